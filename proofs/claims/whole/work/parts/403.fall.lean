/-! THE PURE PART, 4: a crash, one page written -/
section PF
def tkF (k : Nat) (M D : Nat → Int32) : Nat → Int32 := fun i => if k ≤ pgN i ∧ i < 15 then D i else M i
def tkG (k : Nat) (M D : Nat → Int32) : Nat → Int32 := fun i => if k ≤ 6 ∧ i < 41 then D i else M i
theorem tkF_7 (M D : Nat → Int32) {k : Nat} (hk : 6 ≤ k) : tkF k M D = M := by
  funext i
  unfold tkF
  rw [if_neg]
  intro h
  have := pgN_lt h.2
  omega
theorem tkF_s (M D : Nat → Int32) (k : Nat) : tkF (k + 1) (tkR k M D) D = tkF k M D := by
  funext i
  unfold tkF tkR
  by_cases h : i < 15
  · by_cases h1 : k + 1 ≤ pgN i
    · rw [if_pos ⟨h1, h⟩, if_pos ⟨by omega, h⟩]
    · by_cases h2 : pgN i = k
      · rw [if_neg (by omega), if_pos ⟨h2, h⟩, if_pos ⟨by omega, h⟩]
      · rw [if_neg (by omega), if_neg (by omega), if_neg (by omega)]
  · rw [if_neg (by omega), if_neg (by omega), if_neg (by omega)]
theorem tkG_s (M D : Nat → Int32) {k : Nat} (hk : k < 7) : tkG (k + 1) (tkS k M D) D = tkG k M D := by
  funext i
  unfold tkG tkS
  by_cases h : i < 41
  · by_cases h1 : k + 1 ≤ 6
    · rw [if_pos ⟨h1, h⟩, if_pos ⟨by omega, h⟩]
    · rw [if_neg (by omega), if_pos ⟨by omega, h⟩, if_pos ⟨by omega, h⟩]
  · rw [if_neg (by omega), if_neg (by omega), if_neg (by omega)]
theorem fall2 (N : Nat) (D : K_Co) (d w c f : Int32) : ∀ (j k n : Nat) (m1 m2 m3 m4 e : Nat → Int32), k + j = 7 → j < n → f_St_fall_2 N n (nI k) ((m1, (m2, (m3, m4))), (D, (e, (d, (w, (c, f)))))) = f_St_fall_50 N N 1 ((tkF k m1 D.1, (tkF k m2 D.2.1, (tkF k m3 D.2.2.1, tkG k m4 D.2.2.2))), (D, ((fun q => if k ≤ q ∧ q < 7 then 0 else e q), (0, (w, (c + 1, f)))))) := by
  intro j
  induction j with
  | zero =>
    intro k n m1 m2 m3 m4 e hk hn
    obtain ⟨n, rfl⟩ : ∃ m, n = m + 1 := ⟨n - 1, by omega⟩
    unfold f_St_fall_2
    rw [if_pos (le7 (k := k) (by omega) (by omega)), tkF_7 _ _ (by omega), tkF_7 _ _ (by omega), tkF_7 _ _ (by omega)]
    have e1 : (fun q => if k ≤ q ∧ q < 7 then 0 else e q) = e := by funext q; rw [if_neg (by omega)]
    have e2 : tkG k m4 D.2.2.2 = m4 := by funext q; unfold tkG; rw [if_neg (by omega)]
    rw [e1, e2]
  | succ j ih =>
    intro k n m1 m2 m3 m4 e hk hn
    obtain ⟨n, rfl⟩ : ∃ m, n = m + 1 := ⟨n - 1, by omega⟩
    unfold f_St_fall_2
    rw [if_neg (nle7 (k := k) (by omega))]
    dsimp only
    rw [take_page N (by omega)]
    simp only [Option.bind_some]
    rw [if_pos (nI_xi (by omega) (by omega)), nI_1]
    unfold tk
    rw [ih (k + 1) n _ _ _ _ _ (by omega) (by omega), nI_clamp (by omega)]
    dsimp only
    rw [tkF_s, tkF_s, tkF_s, tkG_s _ _ (by omega)]
    have e1 : (fun q => if k + 1 ≤ q ∧ q < 7 then 0 else upd e k 0 q) = (fun q => if k ≤ q ∧ q < 7 then 0 else e q) := by
      funext q
      unfold upd
      by_cases h : q = k
      · subst h; rw [if_neg (by omega), if_pos rfl, if_pos (by omega)]
      · rw [if_neg h]
        by_cases h2 : k ≤ q ∧ q < 7
        · rw [if_pos (by omega), if_pos h2]
        · rw [if_neg (by omega), if_neg h2]
    rw [e1]
theorem mfall2 (N : Nat) (s4 : Nat → Int32) (D : K_Co) (R : (Nat → Int32) × (Nat → Int32) × (Nat → Int32) × (Nat → Int64) × (Nat → Int32) × Int32 × Int32 × Int32 × Int32 × Int32 × Int32) : ∀ (j k n : Nat) (m1 m2 m3 : Nat → Int32), k + j = 15 → j < n → f_Mo_fall_2 N n (nI k) ((m1, (m2, (m3, s4))), (D, R)) = f_Mo_fall_52 N N 0 (((fun i => if k ≤ i ∧ i < 15 then D.1 i else m1 i), ((fun i => if k ≤ i ∧ i < 15 then D.2.1 i else m2 i), ((fun i => if k ≤ i ∧ i < 15 then D.2.2.1 i else m3 i), s4))), (D, R)) := by
  intro j
  induction j with
  | zero =>
    intro k n m1 m2 m3 hk hn
    obtain ⟨n, rfl⟩ : ∃ m, n = m + 1 := ⟨n - 1, by omega⟩
    unfold f_Mo_fall_2
    rw [if_pos (le15 (k := k) (by omega) (by omega))]
    have e1 : ∀ (x m : Nat → Int32), (fun q => if k ≤ q ∧ q < 15 then x q else m q) = m := by intro x m; funext q; rw [if_neg (by omega)]
    rw [e1, e1, e1]
  | succ j ih =>
    intro k n m1 m2 m3 hk hn
    obtain ⟨n, rfl⟩ : ∃ m, n = m + 1 := ⟨n - 1, by omega⟩
    have hx : xi (nI k) 15 = true := nI_xi (by omega) (by omega)
    unfold f_Mo_fall_2
    rw [if_neg (nle15 (k := k) (by omega)), if_pos hx, if_pos hx, if_pos hx, if_pos hx, if_pos hx, if_pos hx, nI_1]
    dsimp only
    rw [ih (k + 1) n _ _ _ (by omega) (by omega), nI_clamp (by omega)]
    have e1 : ∀ (x m : Nat → Int32), (fun q => if k + 1 ≤ q ∧ q < 15 then x q else upd m k (x k) q) = (fun q => if k ≤ q ∧ q < 15 then x q else m q) := by
      intro x m
      funext q
      unfold upd
      by_cases h : q = k
      · subst h; rw [if_neg (by omega), if_pos rfl, if_pos (by omega)]
      · rw [if_neg h]
        by_cases h2 : k ≤ q ∧ q < 15
        · rw [if_pos (by omega), if_pos h2]
        · rw [if_neg (by omega), if_neg h2]
    rw [e1, e1, e1]
theorem mfall52 (N : Nat) (A D : K_Co) (R : (Nat → Int32) × (Nat → Int64) × (Nat → Int32) × Int32 × Int32 × Int32 × Int32 × Int32 × Int32) : ∀ (j k n : Nat) (d e : Nat → Int32), k + j = 7 → j < n → f_Mo_fall_52 N n (nI k) (A, (D, (d, (e, R)))) = f_Mo_fall_80 N N 1 (A, (D, ((fun q => if k ≤ q ∧ q < 7 then 0 else d q), ((fun q => if k ≤ q ∧ q < 7 then 0 else e q), R)))) := by
  intro j
  induction j with
  | zero =>
    intro k n d e hk hn
    obtain ⟨n, rfl⟩ : ∃ m, n = m + 1 := ⟨n - 1, by omega⟩
    unfold f_Mo_fall_52
    rw [if_pos (le7 (k := k) (by omega) (by omega))]
    have e1 : ∀ m : Nat → Int32, (fun q => if k ≤ q ∧ q < 7 then 0 else m q) = m := by intro m; funext q; rw [if_neg (by omega)]
    rw [e1, e1]
  | succ j ih =>
    intro k n d e hk hn
    obtain ⟨n, rfl⟩ : ∃ m, n = m + 1 := ⟨n - 1, by omega⟩
    have hx : xi (nI k) 7 = true := nI_xi (by omega) (by omega)
    unfold f_Mo_fall_52
    rw [if_neg (nle7 (k := k) (by omega)), if_pos hx, if_pos hx, nI_1, nar0]
    dsimp only
    rw [ih (k + 1) n _ _ (by omega) (by omega), nI_clamp (by omega)]
    have e1 : ∀ m : Nat → Int32, (fun q => if k + 1 ≤ q ∧ q < 7 then 0 else upd m k 0 q) = (fun q => if k ≤ q ∧ q < 7 then 0 else m q) := by
      intro m
      funext q
      unfold upd
      by_cases h : q = k
      · subst h; rw [if_neg (by omega), if_pos rfl, if_pos (by omega)]
      · rw [if_neg h]
        by_cases h2 : k ≤ q ∧ q < 7
        · rw [if_pos (by omega), if_pos h2]
        · rw [if_neg (by omega), if_neg h2]
    rw [e1, e1]
theorem fall80 (N : Nat) (r : (Nat → Int32) × (Nat → Int32) × (Nat → Int32)) (r' : (Nat → Int32) × (Nat → Int32) × (Nat → Int32)) (D D' : K_Co) (hD : D'.2.2.2 = D.2.2.2) (e : Nat → Int32) (w c f : Int32) (e' ch : Nat → Int32) (cb : Nat → Int64) (pl : Nat → Int32) (th w' c' f' cr rf : Int32) :
    ∀ (j k n : Nat) (st sr : Nat → Int32) (d : Int32), k + j = 41 → 1 ≤ k → j < n → Mk d → (∀ i, k ≤ i → i < 41 → D.2.2.2 i = st i) → (∀ i, ¬ (k ≤ i ∧ i < 41) → sr i = st i) →
      ∃ (st' : Nat → Int32) (d' : Int32), Mk d' ∧ (∀ i, k ≤ i → i < 41 → st' i = if st i = 1 then 3 else st i) ∧ (∀ i, ¬ (k ≤ i ∧ i < 41) → st' i = st i) ∧
        f_St_fall_50 N n (nI k) ((r.1, (r.2.1, (r.2.2, st))), (D, (e, (d, (w, (c, f)))))) = some ((), ((r.1, (r.2.1, (r.2.2, st'))), (D, (e, (d', (w, (c, f))))))) ∧
        f_Mo_fall_80 N n (nI k) ((r'.1, (r'.2.1, (r'.2.2, sr))), (D', (dA d, (e', (ch, (cb, (pl, (th, (w', (c', (f', (cr, rf)))))))))))) = some ((), ((r'.1, (r'.2.1, (r'.2.2, st'))), (D', (dA d', (e', (ch, (cb, (pl, (th, (w', (c' + 1, (f', (1, rf))))))))))))) := by
  intro j
  induction j with
  | zero =>
    intro k n st sr d hk h1 hn hd hD1 hsr
    obtain ⟨n, rfl⟩ : ∃ m, n = m + 1 := ⟨n - 1, by omega⟩
    refine ⟨st, d, hd, fun i h1 h2 => by omega, fun i _ => rfl, ?_, ?_⟩
    · unfold f_St_fall_50
      rw [if_pos (lt40 (k := k) (by omega) (by omega))]
    · unfold f_Mo_fall_80
      rw [if_pos (lt40 (k := k) (by omega) (by omega))]
      have : sr = st := funext fun i => hsr i (by omega)
      rw [this]
  | succ j ih =>
    intro k n st sr d hk h1 hn hd hD1 hsr
    obtain ⟨n, rfl⟩ : ∃ m, n = m + 1 := ⟨n - 1, by omega⟩
    have hx : xi (nI k) 41 = true := nI_xi (by omega) (by omega)
    have hDk := hD1 k (by omega) (by omega)
    by_cases ha : st k = 1
    · obtain ⟨st', d', g1, g2, g3, g4, g5⟩ := ih (k + 1) n (upd st k 3) (upd (upd sr k (st k)) k 3) (d ||| ((1 : Int32) <<< (nI 6 &&& 31))) (by omega) (by omega) (by omega) (hd.or (Mk.one (by omega)))
        (fun i h1 h2 => by rw [upd_o _ _ (by omega)]; exact hD1 i (by omega) h2)
        (fun i hi => by
          by_cases h : i = k
          · subst h; rw [upd_s, upd_s]
          · rw [upd_o _ _ h, upd_o _ _ h, upd_o _ _ h]; exact hsr i (by omega))
      refine ⟨st', d', g1, fun i h1 h2 => ?_, fun i hi => ?_, ?_, ?_⟩
      · by_cases h : i = k
        · subst h; rw [g3 i (by omega), upd_s, if_pos ha]
        · rw [g2 i (by omega) h2, upd_o _ _ h]
      · rw [g3 i (by omega), upd_o _ _ (by omega)]
      · unfold f_St_fall_50
        rw [if_neg (nlt40 (k := k) (by omega)), if_pos hx]
        dsimp only
        rw [nI_clamp (by omega), if_pos ha, if_pos hx]
        unfold f_St_changed
        simp only [Option.bind_some]
        rw [nI_1]
        exact g4
      · unfold f_Mo_fall_80
        rw [if_neg (nlt40 (k := k) (by omega)), if_pos hx, if_pos hx, if_pos hx]
        dsimp only
        rw [nI_clamp (by omega), hD, hDk, upd_s, if_pos ha, if_pos hx, nar1, nI_1]
        rw [show ((6 : Int32)).toNatClampNeg = 6 from rfl, dA_or _ (by omega)]
        exact g5
    · obtain ⟨st', d', g1, g2, g3, g4, g5⟩ := ih (k + 1) n st (upd sr k (st k)) d (by omega) (by omega) (by omega) hd
        (fun i h1 h2 => hD1 i (by omega) h2)
        (fun i hi => by
          by_cases h : i = k
          · subst h; rw [upd_s]
          · rw [upd_o _ _ h]; exact hsr i (by omega))
      refine ⟨st', d', g1, fun i h1 h2 => ?_, fun i hi => ?_, ?_, ?_⟩
      · by_cases h : i = k
        · subst h; rw [g3 i (by omega), if_neg ha]
        · rw [g2 i (by omega) h2]
      · rw [g3 i (by omega)]
      · unfold f_St_fall_50
        rw [if_neg (nlt40 (k := k) (by omega)), if_pos hx]
        dsimp only
        rw [nI_clamp (by omega), if_neg ha, nI_1]
        exact g4
      · unfold f_Mo_fall_80
        rw [if_neg (nlt40 (k := k) (by omega)), if_pos hx, if_pos hx, if_pos hx]
        dsimp only
        rw [nI_clamp (by omega), hD, hDk, upd_s, if_neg ha, nI_1]
        exact g5
end PF
