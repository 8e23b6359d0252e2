/-! THE PURE PART, 3: pages written, pages fallen back -/
section PP
def tkR (p : Nat) (D M : Nat → Int32) : Nat → Int32 := fun i => if pgN i = p ∧ i < 15 then M i else D i
def tkS (p : Nat) (D M : Nat → Int32) : Nat → Int32 := fun i => if p = 6 ∧ i < 41 then M i else D i
def tk (p : Nat) (D M : K_Co) : K_Co := (tkR p D.1 M.1, (tkR p D.2.1 M.2.1, (tkR p D.2.2.1 M.2.2.1, tkS p D.2.2.2 M.2.2.2)))
theorem tkR_6 (D M : Nat → Int32) : tkR 6 D M = D := by
  funext i
  unfold tkR
  rw [if_neg]
  intro h
  have := pgN_lt h.2
  omega
theorem tkS_n {p : Nat} (hp : p ≠ 6) (D M : Nat → Int32) : tkS p D M = D := by
  funext i
  unfold tkS
  rw [if_neg]
  exact fun h => hp h.1
theorem cpy_R2 {p : Nat} (hp : p < 3) (D M : Nat → Int32) : va_cpy M D (p * 2) (p * 2) 2 = tkR p D M := by
  funext i
  unfold va_cpy tkR pgN
  by_cases h : p * 2 ≤ i ∧ i < p * 2 + 2
  · rw [if_pos h, if_pos]
    · congr 1; omega
    · rw [if_pos (by omega)]; omega
  · rw [if_neg h, if_neg]
    intro h2
    split at h2 <;> omega
theorem cpy_R3 {p : Nat} (hp : p < 6) (h3 : 3 ≤ p) (D M : Nat → Int32) : va_cpy M D (6 + (p - 3) * 3) (6 + (p - 3) * 3) 3 = tkR p D M := by
  funext i
  unfold va_cpy tkR pgN
  by_cases h : 6 + (p - 3) * 3 ≤ i ∧ i < 6 + (p - 3) * 3 + 3
  · rw [if_pos h, if_pos]
    · congr 1; omega
    · rw [if_neg (by omega)]; omega
  · rw [if_neg h, if_neg]
    intro h2
    split at h2 <;> omega
theorem cpy_S (D M : Nat → Int32) : va_cpy M D 0 0 41 = tkS 6 D M := by
  funext i
  unfold va_cpy tkS
  by_cases h : i < 41
  · rw [if_pos (by omega), if_pos (by omega)]; congr 1; omega
  · rw [if_neg (by omega), if_neg (by omega)]
theorem take_page (N : Nat) {p : Nat} (hp : p < 7) (D M : K_Co) : f_Co_takePage N (nI p) (D, M) = some ((), (tk p D M, M)) := by
  obtain ⟨d1, d2, d3, d4⟩ := D
  obtain ⟨m1, m2, m3, m4⟩ := M
  unfold tk
  match p, hp with
  | 0, _ => rw [← cpy_R2 (by omega), ← cpy_R2 (by omega), ← cpy_R2 (by omega), tkS_n (by omega)]; rfl
  | 1, _ => rw [← cpy_R2 (by omega), ← cpy_R2 (by omega), ← cpy_R2 (by omega), tkS_n (by omega)]; rfl
  | 2, _ => rw [← cpy_R2 (by omega), ← cpy_R2 (by omega), ← cpy_R2 (by omega), tkS_n (by omega)]; rfl
  | 3, _ => rw [← cpy_R3 (by omega) (by omega), ← cpy_R3 (by omega) (by omega), ← cpy_R3 (by omega) (by omega), tkS_n (by omega)]; rfl
  | 4, _ => rw [← cpy_R3 (by omega) (by omega), ← cpy_R3 (by omega) (by omega), ← cpy_R3 (by omega) (by omega), tkS_n (by omega)]; rfl
  | 5, _ => rw [← cpy_R3 (by omega) (by omega), ← cpy_R3 (by omega) (by omega), ← cpy_R3 (by omega) (by omega), tkS_n (by omega)]; rfl
  | 6, _ => rw [tkR_6, tkR_6, tkR_6, ← cpy_S]; rfl
/-- the masks without p -/
def eN (p : Nat) (e : Nat → Int32) : Nat → Int32 := fun q => if q < 7 then e q &&& (((1 : Int32) <<< (nI p &&& 31)) ^^^ (-1 : Int32)) else e q
theorem settle16 (N : Nat) (p : Nat) (M D : K_Co) (d w c f : Int32) : ∀ (j k n : Nat) (e : Nat → Int32), k + j = 7 → j < n → f_St_settle_16 N n (nI p) (nI k) (M, (D, (e, (d, (w, (c, f)))))) = some ((), (M, (D, ((fun q => if k ≤ q ∧ q < 7 then e q &&& (((1 : Int32) <<< (nI p &&& 31)) ^^^ (-1 : Int32)) else e q), (d, (w + 1, (c, f))))))) := by
  intro j
  induction j with
  | zero =>
    intro k n e hk hn
    obtain ⟨n, rfl⟩ : ∃ m, n = m + 1 := ⟨n - 1, by omega⟩
    unfold f_St_settle_16
    rw [if_pos (le7 (k := k) (by omega) (by omega))]
    congr; funext q; rw [if_neg (by omega)]
  | succ j ih =>
    intro k n e hk hn
    obtain ⟨n, rfl⟩ : ∃ m, n = m + 1 := ⟨n - 1, by omega⟩
    unfold f_St_settle_16
    rw [if_neg (nle7 (k := k) (by omega)), if_pos (nI_xi (by omega) (by omega)), if_pos (nI_xi (by omega) (by omega)), nI_1, ih (k + 1) n _ (by omega) (by omega), nI_clamp (by omega)]
    congr; funext q
    unfold upd
    by_cases h : q = k
    · subst h; rw [if_pos rfl, if_neg (by omega), if_pos (by omega)]
    · rw [if_neg h]
      by_cases h2 : k ≤ q ∧ q < 7
      · rw [if_pos h2, if_pos (by omega)]
      · rw [if_neg h2, if_neg (by omega)]
theorem settle_eq (N : Nat) (hN : 8 ≤ N) (p : Nat) (M D : K_Co) (e : Nat → Int32) (d w c f : Int32) : f_St_settle N (nI p) (M, (D, (e, (d, (w, (c, f)))))) = some ((), (M, (D, (eN p e, (d &&& (((1 : Int32) <<< (nI p &&& 31)) ^^^ (-1 : Int32)), (w + 1, (c, f))))))) := by
  unfold f_St_settle
  have := settle16 N p M D (d &&& (((1 : Int32) <<< (nI p &&& 31)) ^^^ (-1 : Int32))) w c f 7 0 N e rfl (by omega)
  rw [← nI_0, this]
  congr; funext q
  unfold eN
  by_cases h : q < 7
  · rw [if_pos h, if_pos (by omega)]
  · rw [if_neg h, if_neg (by omega)]
theorem mo137 (N : Nat) (p : Nat) (A B : K_Co) (d ch : Nat → Int32) (cb : Nat → Int64) (pl : Nat → Int32) (th w : Int32) (R : Int32 × Int32 × Int32 × Int32) : ∀ (j k n : Nat) (e : Nat → Int32), k + j = 7 → j < n → f_Mo_put_137 N n (nI p) (nI k) (A, (B, (d, (e, (ch, (cb, (pl, (th, (w, R))))))))) = some ((), (A, (B, (d, ((fun q => if k ≤ q ∧ q < 7 then e q &&& (((1 : Int32) <<< (nI p &&& 31)) ^^^ (-1 : Int32)) else e q), (ch, (cb, (pl, (th, (w + 1, R)))))))))) := by
  intro j
  induction j with
  | zero =>
    intro k n e hk hn
    obtain ⟨n, rfl⟩ : ∃ m, n = m + 1 := ⟨n - 1, by omega⟩
    unfold f_Mo_put_137
    rw [if_pos (le7 (k := k) (by omega) (by omega))]
    congr; funext q; rw [if_neg (by omega)]
  | succ j ih =>
    intro k n e hk hn
    obtain ⟨n, rfl⟩ : ∃ m, n = m + 1 := ⟨n - 1, by omega⟩
    unfold f_Mo_put_137
    rw [if_neg (nle7 (k := k) (by omega)), if_pos (nI_xi (by omega) (by omega)), if_pos (nI_xi (by omega) (by omega)), nI_1, ih (k + 1) n _ (by omega) (by omega), nI_clamp (by omega)]
    congr; funext q
    unfold upd
    by_cases h : q = k
    · subst h; rw [if_pos rfl, if_neg (by omega), if_pos (by omega)]
    · rw [if_neg h]
      by_cases h2 : k ≤ q ∧ q < 7
      · rw [if_pos h2, if_pos (by omega)]
      · rw [if_neg h2, if_neg (by omega)]
theorem mo98 (N : Nat) {p : Nat} (hp : p < 7) (m1 m2 m3 m4 d1 d2 d3 : Nat → Int32) (R : (Nat → Int32) × (Nat → Int32) × (Nat → Int32) × (Nat → Int64) × (Nat → Int32) × Int32 × Int32 × Int32 × Int32 × Int32 × Int32) : ∀ (j k n : Nat) (s : Nat → Int32), k + j = 41 → j < n → f_Mo_put_98 N n (nI p) (nI k) ((m1, (m2, (m3, m4))), ((d1, (d2, (d3, s))), R)) = f_Mo_put_137 N N (nI p) 0 ((m1, (m2, (m3, m4))), ((d1, (d2, (d3, fun i => if p = 6 ∧ k ≤ i ∧ i < 41 then m4 i else s i))), ((upd R.1 p 0), R.2))) := by
  intro j
  induction j with
  | zero =>
    intro k n s hk hn
    obtain ⟨n, rfl⟩ : ∃ m, n = m + 1 := ⟨n - 1, by omega⟩
    unfold f_Mo_put_98
    rw [if_pos (lt40 (k := k) (by omega) (by omega)), if_pos (nI_xi (by omega) (by omega)), nI_clamp (by omega), nar0]
    have e : (fun i => if p = 6 ∧ k ≤ i ∧ i < 41 then m4 i else s i) = s := by funext i; rw [if_neg (by omega)]
    rw [e]
  | succ j ih =>
    intro k n s hk hn
    obtain ⟨n, rfl⟩ : ∃ m, n = m + 1 := ⟨n - 1, by omega⟩
    unfold f_Mo_put_98
    rw [if_neg (nlt40 (k := k) (by omega))]
    by_cases h6 : p = 6
    · subst h6
      rw [if_pos (show nI 6 = 6 from rfl), if_pos (nI_xi (by omega) (by omega)), if_pos (nI_xi (by omega) (by omega)), nI_1, ih (k + 1) n _ (by omega) (by omega), nI_clamp (by omega)]
      congr; funext i
      unfold upd
      by_cases h : i = k
      · subst h; rw [if_neg (by omega), if_pos rfl, if_pos (by omega)]
      · rw [if_neg h]
        by_cases h2 : k ≤ i ∧ i < 41
        · rw [if_pos (by omega), if_pos (by omega)]
        · rw [if_neg (by omega), if_neg (by omega)]
    · rw [if_neg (by rw [zl6, nI_eq (by omega) (by omega)]; exact h6), if_pos (nI_xi (by omega) (by omega)), nI_clamp (by omega), nar0]
      have e : (fun i => if p = 6 ∧ k ≤ i ∧ i < 41 then m4 i else s i) = s := by funext i; rw [if_neg (by omega)]
      rw [e]
theorem mo37 (N : Nat) {p : Nat} (hp : p < 7) (m1 m2 m3 m4 s : Nat → Int32) (R : (Nat → Int32) × (Nat → Int32) × (Nat → Int32) × (Nat → Int64) × (Nat → Int32) × Int32 × Int32 × Int32 × Int32 × Int32 × Int32) : ∀ (j k n : Nat) (d1 d2 d3 : Nat → Int32), k + j = 15 → j < n → f_Mo_put_37 N n (nI p) (nI k) ((m1, (m2, (m3, m4))), ((d1, (d2, (d3, s))), R)) = f_Mo_put_98 N N (nI p) 1 ((m1, (m2, (m3, m4))), (((fun i => if k ≤ i ∧ i < 15 ∧ pgN i = p then m1 i else d1 i), ((fun i => if k ≤ i ∧ i < 15 ∧ pgN i = p then m2 i else d2 i), ((fun i => if k ≤ i ∧ i < 15 ∧ pgN i = p then m3 i else d3 i), s))), R)) := by
  intro j
  induction j with
  | zero =>
    intro k n d1 d2 d3 hk hn
    obtain ⟨n, rfl⟩ : ∃ m, n = m + 1 := ⟨n - 1, by omega⟩
    unfold f_Mo_put_37
    rw [if_pos (le15 (k := k) (by omega) (by omega))]
    congr <;> (funext i; rw [if_neg (by omega)])
  | succ j ih =>
    intro k n d1 d2 d3 hk hn
    obtain ⟨n, rfl⟩ : ∃ m, n = m + 1 := ⟨n - 1, by omega⟩
    have hx : xi (nI k) 15 = true := nI_xi (by omega) (by omega)
    have hg := pgN_lt (i := k) (by omega)
    have key : ∀ (m d : Nat → Int32), (fun i => if k + 1 ≤ i ∧ i < 15 ∧ pgN i = p then m i else if pgN k = p then upd d k (m k) i else d i) = (fun i => if k ≤ i ∧ i < 15 ∧ pgN i = p then m i else d i) := by
      intro m d
      funext i
      unfold upd
      by_cases h : i = k
      · subst h
        by_cases h2 : pgN i = p
        · rw [if_neg (by omega), if_pos h2, if_pos rfl, if_pos ⟨by omega, by omega, h2⟩]
        · rw [if_neg (by omega), if_neg h2, if_neg (fun h => h2 h.2.2)]
      · by_cases h2 : k ≤ i ∧ i < 15 ∧ pgN i = p
        · rw [if_pos ⟨by omega, h2.2⟩, if_pos h2]
        · rw [if_neg (fun q => h2 ⟨by omega, q.2⟩), if_neg h2, if_neg h, ite_self]
    unfold f_Mo_put_37
    rw [if_neg (nle15 (k := k) (by omega)), pgM (by omega) N]
    simp only [Option.bind_some]
    by_cases h2 : pgN k = p
    · rw [if_pos (by rw [h2]), if_pos hx, if_pos hx, if_pos hx, if_pos hx, if_pos hx, if_pos hx, nI_1, ih (k + 1) n _ _ _ (by omega) (by omega), nI_clamp (by omega)]
      have k1 := key m1 d1
      have k2 := key m2 d2
      have k3 := key m3 d3
      simp only [if_pos h2] at k1 k2 k3
      rw [k1, k2, k3]
    · rw [if_neg (by rw [nI_eq (by omega) (by omega)]; exact h2), nI_1, ih (k + 1) n _ _ _ (by omega) (by omega)]
      have k1 := key m1 d1
      have k2 := key m2 d2
      have k3 := key m3 d3
      simp only [if_neg h2] at k1 k2 k3
      rw [k1, k2, k3]
end PP
