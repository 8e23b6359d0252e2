/-! THE PURE PART, 7: a note: both sides -/
section PN
theorem TT7 : TT 7 + 50 ≤ 100000000 := by decide +kernel
theorem put_root (N : Nat) (hN : 100000000 ≤ N) {S : K_St} (hS : IS S) {p : Nat} (hp : p < 7) : ∃ res S', f_St_put N 9 (nI p) 0 S = some (res, S') ∧
    ((res = 1 ∧ Ws S S' ∧ bz S'.2.2.2.1 p = false ∧ (∀ q, q < 7 → bz (S'.2.2.1 q) p = false) ∧ ∀ cb ch pl th rf, ∃ pl', f_Mo_store N (nI p) (mkV S cb ch pl th 0 rf) = some ((), mkV S' cb ch pl' th 0 rf)) ∨
     (res = 0 ∧ IS S' ∧ ∀ cb ch pl th rf, ∃ pl', f_Mo_store N (nI p) (mkV S cb ch pl th 0 rf) = some ((), mkV S' cb ch pl' th 1 rf))) := by
  have hT := TT7
  obtain ⟨ρ, hR⟩ := hS.2.2.2.2.2.1
  obtain ⟨res, S', g1, g2, g3⟩ := put_both N (by omega) ρ 7 p 9 0 0 S hp (hR.1 p) (by omega) (by omega) (by omega) hS hR
  refine ⟨res, S', g1, ?_⟩
  rcases g2 with ⟨rfl, gW, gd, ge⟩ | ⟨rfl, gI⟩
  · refine Or.inl ⟨rfl, gW, gd, ge, fun cb ch pl th rf => ?_⟩
    obtain ⟨c, pl', -, q1, s1⟩ := g3 cb ch (upd pl 0 (nI p)) th rf (upd_s _ _ _)
    refine ⟨pl', ?_⟩
    have := (s1 (N - c)).1 rfl
    rw [show N - c + c = N from by omega, show N - c = (N - c - 1) + 1 from by omega] at this
    unfold f_Mo_store
    refine Eq.trans this ?_
    rw [f_Mo_store_9, if_pos (by decide)]
  · refine Or.inr ⟨rfl, gI, fun cb ch pl th rf => ?_⟩
    obtain ⟨c, pl', -, q1, s1⟩ := g3 cb ch (upd pl 0 (nI p)) th rf (upd_s _ _ _)
    refine ⟨pl', ?_⟩
    have := (s1 (N - c)).2 rfl
    rw [show N - c + c = N from by omega] at this
    unfold f_Mo_store
    exact this
/-- what is noted before, one round and many -/
def rdI (e : Nat → Int32) : Nat → Nat → Int32 → Int32
  | 0, _, R => R
  | j + 1, k, R => rdI e j (k + 1) (if bz R k = true then R ||| e k else R)
def rdO (e : Nat → Int32) : Nat → Int32 → Int32
  | 0, R => R
  | r + 1, R => rdO e r (rdI e 7 0 R)
theorem rdI_sub (e : Nat → Int32) : ∀ (j k : Nat) (R : Int32) (i : Nat), bz R i = true → bz (rdI e j k R) i = true := by
  intro j
  induction j with
  | zero => intro k R i h; exact h
  | succ j ih =>
    intro k R i h
    unfold rdI
    apply ih
    split
    · rw [bz_or, h]; rfl
    · exact h
theorem rdI_in (e : Nat → Int32) : ∀ (j k : Nat) (R : Int32) (q i : Nat), k ≤ q → q < k + j → bz R q = true → bz (e q) i = true → bz (rdI e j k R) i = true := by
  intro j
  induction j with
  | zero => intro k R q i h1 h2; omega
  | succ j ih =>
    intro k R q i h1 h2 h3 h4
    unfold rdI
    by_cases hq : q = k
    · subst hq
      rw [if_pos h3]
      exact rdI_sub e _ _ _ _ (by rw [bz_or, h4]; simp)
    · refine ih (k + 1) _ q i (by omega) (by omega) ?_ h4
      split
      · rw [bz_or, h3]; rfl
      · exact h3
theorem rdI_snd (e : Nat → Int32) (A : Nat → Prop) (hA : ∀ q i, A q → bz (e q) i = true → A i) : ∀ (j k : Nat) (R : Int32), (∀ i, bz R i = true → A i) → ∀ i, bz (rdI e j k R) i = true → A i := by
  intro j
  induction j with
  | zero => intro k R h i hi; exact h i hi
  | succ j ih =>
    intro k R h i hi
    unfold rdI at hi
    refine ih (k + 1) _ (fun i hi => ?_) i hi
    split at hi
    · next hk =>
      rw [bz_or] at hi
      simp only [Bool.or_eq_true] at hi
      rcases hi with hi | hi
      · exact h i hi
      · exact hA k i (h k hk) hi
    · exact h i hi
theorem rdO_snd (e : Nat → Int32) (A : Nat → Prop) (hA : ∀ q i, A q → bz (e q) i = true → A i) : ∀ (r : Nat) (R : Int32), (∀ i, bz R i = true → A i) → ∀ i, bz (rdO e r R) i = true → A i := by
  intro r
  induction r with
  | zero => intro R h i hi; exact h i hi
  | succ r ih => intro R h i hi; exact ih _ (rdI_snd e A hA 7 0 R h) i hi
theorem rdO_s (e : Nat → Int32) : ∀ (r : Nat) (R : Int32), rdO e (r + 1) R = rdI e 7 0 (rdO e r R) := by
  intro r
  induction r with
  | zero => intro R; rfl
  | succ r ih => intro R; rw [rdO, ih]; rfl
theorem rdO_mono (e : Nat → Int32) (R : Int32) {r s : Nat} (h : r ≤ s) (i : Nat) (hi : bz (rdO e r R) i = true) : bz (rdO e s R) i = true := by
  obtain ⟨t, rfl⟩ : ∃ t, s = r + t := ⟨s - r, by omega⟩
  induction t with
  | zero => exact hi
  | succ t ih => rw [show r + (t + 1) = (r + t) + 1 from rfl, rdO_s]; exact rdI_sub e _ _ _ _ (ih (by omega))
theorem rd_all {e : Nat → Int32} {ρ : Nat → Nat} (hR : Rho ρ e) (hM : ∀ q, Mk (e q)) {a : Nat} (ha : a < 7) : (∀ i, bz (rdO e 7 (e a)) i = true → i < 7 ∧ ρ i < ρ a) ∧ (∀ i, bz (e a) i = true → bz (rdO e 7 (e a)) i = true) ∧ ∀ q i, bz (rdO e 7 (e a)) q = true → bz (e q) i = true → bz (rdO e 7 (e a)) i = true := by
  have lt7 : ∀ q i, bz (e q) i = true → i < 7 := fun q i h => by
    by_cases h7 : i < 7
    · exact h7
    · rw [hM q i (by omega)] at h; cases h
  have key := rdO_snd e (fun i => i < 7 ∧ ρ i < ρ a ∧ bz (rdO e (6 - ρ i) (e a)) i = true) (fun q i hq hi => by
      have := hR.2 i q (lt7 q i hi) hq.1 hi
      have hra := hR.1 q
      refine ⟨lt7 q i hi, by omega, rdO_mono e _ (r := 6 - ρ q + 1) (by omega) i ?_⟩
      rw [rdO_s]
      exact rdI_in e 7 0 _ q i (by omega) (by omega) hq.2.2 hi) 7 (e a) (fun i hi => ⟨lt7 a i hi, hR.2 i a (lt7 a i hi) ha hi, rdO_mono e _ (r := 0) (by omega) i hi⟩)
  refine ⟨fun i hi => ⟨(key i hi).1, (key i hi).2.1⟩, fun i hi => rdO_mono e _ (r := 0) (by omega) i hi, fun q i hq hi => ?_⟩
  have hk := key q hq
  refine rdO_mono e _ (r := 6 - ρ q + 1) (by omega) i ?_
  rw [rdO_s]
  exact rdI_in e 7 0 _ q i (by omega) (by omega) hk.2.2 hi
/-- how many of 0..k-1 lie below v -/
def cn (σ : Nat → Nat) (v : Nat) : Nat → Nat
  | 0 => 0
  | k + 1 => cn σ v k + (if σ k < v then 1 else 0)
theorem cn_le (σ : Nat → Nat) (v k : Nat) : cn σ v k ≤ k := by
  induction k with
  | zero => exact Nat.le_refl _
  | succ k ih => unfold cn; split <;> omega
theorem cn_mono (σ : Nat → Nat) {v w : Nat} (h : v ≤ w) (k : Nat) : cn σ v k ≤ cn σ w k := by
  induction k with
  | zero => exact Nat.le_refl _
  | succ k ih => unfold cn; split <;> split <;> omega
theorem cn_lt (σ : Nat → Nat) {v w p : Nat} (h : v ≤ w) (hp : ¬ σ p < v) (hw : σ p < w) : ∀ k, p < k → cn σ v k < cn σ w k := by
  intro k
  induction k with
  | zero => intro h; omega
  | succ k ih =>
    intro hk
    unfold cn
    by_cases hpk : p = k
    · subst hpk
      rw [if_neg hp, if_pos hw]
      have := cn_mono σ h p
      omega
    · have := ih (by omega)
      split <;> split <;> omega
theorem cn_bd (σ : Nat → Nat) {v p : Nat} (hp : ¬ σ p < v) : ∀ k, p < k → cn σ v k < k := by
  intro k
  induction k with
  | zero => intro h; omega
  | succ k ih =>
    intro hk
    unfold cn
    by_cases hpk : p = k
    · subst hpk
      rw [if_neg hp]
      have := cn_le σ v p
      omega
    · have := ih (by omega)
      split <;> omega
theorem rho_of {e : Nat → Int32} (σ : Nat → Nat) (h : ∀ p q, p < 7 → q < 7 → bz (e q) p = true → σ p < σ q) : ∃ ρ, Rho ρ e := by
  refine ⟨fun q => if q < 7 then cn σ (σ q) 7 else 0, fun p => ?_, fun p q hp hq he => ?_⟩
  · dsimp only
    split
    · next hp => exact cn_bd σ (p := p) (by omega) 7 hp
    · omega
  · dsimp only
    rw [if_pos hp, if_pos hq]
    have := h p q hp hq he
    exact cn_lt σ (p := p) (by omega) (by omega) this 7 hp
def adE (a b : Nat) (S : K_St) : K_St := (S.1, (S.2.1, ((upd S.2.2.1 b ((S.2.2.1 b) ||| ((1 : Int32) <<< (nI a &&& 31)))), S.2.2.2)))
theorem bz_adE {a b : Nat} (ha : a < 7) (e : Nat → Int32) (q i : Nat) : bz (upd e b ((e b) ||| ((1 : Int32) <<< (nI a &&& 31))) q) i = (bz (e q) i || (decide (q = b) && decide (i = a))) := by
  unfold upd
  by_cases h : q = b
  · subst h; rw [if_pos rfl, bz_or, bz_one ha]; simp
  · rw [if_neg h]; simp [h]
theorem IS.adE {S : K_St} (hS : IS S) {a b : Nat} (ha : a < 7) (hr : ∃ σ : Nat → Nat, (∀ p q, p < 7 → q < 7 → bz (S.2.2.1 q) p = true → σ p < σ q) ∧ σ a < σ b) : IS (adE a b S) := by
  obtain ⟨h1, h2, h3, h4, h5, h6, h7, h8⟩ := hS
  obtain ⟨σ, hs, hab⟩ := hr
  refine ⟨h1, h2, h3, fun q => ?_, h5, rho_of σ (fun p q hp hq he => ?_), h7, Gd.note h8 (fun p q he => ?_)⟩
  · intro i hi
    show bz (upd S.2.2.1 b _ q) i = false
    rw [bz_adE ha, h4 q i hi]
    simp; intro _; omega
  · have he : bz (upd S.2.2.1 b _ q) p = true := he
    rw [bz_adE ha] at he
    simp only [Bool.or_eq_true, Bool.and_eq_true, decide_eq_true_eq] at he
    rcases he with he | ⟨rfl, rfl⟩
    · exact hs p q hp hq he
    · exact hab
  · show bz (upd S.2.2.1 b _ q) p = true
    have he : bz (S.2.2.1 q) p = true := he
    rw [bz_adE ha, he]; rfl
theorem mp20 (N : Nat) (k10 : Int32 → Int32 → Int32 → K_St → Option (Int32 × K_St)) (x1 x4 : Int32) (S : K_St) : ∀ (j k n : Nat) (R : Int32), k + j = 7 → j < n → f_St_mustPrecede_20 N k10 n x1 R x4 (nI k) S = k10 x1 (rdI S.2.2.1 j k R) (x4 + 1) S := by
  intro j
  induction j with
  | zero =>
    intro k n R hk hn
    obtain ⟨n, rfl⟩ : ∃ m, n = m + 1 := ⟨n - 1, by omega⟩
    rw [f_St_mustPrecede_20, if_pos (le7 (k := k) (by omega) (by omega))]
    rfl
  | succ j ih =>
    intro k n R hk hn
    obtain ⟨n, rfl⟩ : ∃ m, n = m + 1 := ⟨n - 1, by omega⟩
    rw [f_St_mustPrecede_20, if_neg (nle7 (k := k) (by omega)), f_has7 N (by omega), nI_1, nI_clamp (by omega), if_pos (nI_xi (i := k) (n := 7) (by omega) (by omega))]
    simp only [Option.bind_some]
    rw [rdI]
    cases hb : bz R k
    · rw [if_pos (by simp)]
      simp only [Bool.false_eq_true, if_false]
      exact ih (k + 1) n R (by omega) (by omega)
    · simp only [if_true]
      rw [if_neg (by decide)]
      exact ih (k + 1) n _ (by omega) (by omega)
theorem mp10 (N : Nat) (hN : 50 ≤ N) {p : Nat} (hp : p < 7) (S : K_St) : ∀ (r k n : Nat) (R : Int32), k + r = 7 → r < n → f_St_mustPrecede_10 N n (nI p) R (nI k) S = some (if bz (rdO S.2.2.1 r R) p = true then 1 else 0, S) := by
  intro r
  induction r with
  | zero =>
    intro k n R hk hn
    obtain ⟨n, rfl⟩ : ∃ m, n = m + 1 := ⟨n - 1, by omega⟩
    rw [f_St_mustPrecede_10, if_pos (le7 (k := k) (by omega) (by omega)), f_has7 N hp]
    simp only [Option.bind_some]
    rw [rdO]
    cases bz R p <;> rfl
  | succ r ih =>
    intro k n R hk hn
    obtain ⟨n, rfl⟩ : ∃ m, n = m + 1 := ⟨n - 1, by omega⟩
    rw [f_St_mustPrecede_10, if_neg (nle7 (k := k) (by omega)), ← nI_0, mp20 N _ _ _ S 7 0 N R rfl (by omega), nI_1, ih (k + 1) n _ (by omega) (by omega)]
    rfl
theorem mp_eq (N : Nat) (hN : 50 ≤ N) {p a : Nat} (hp : p < 7) (ha : a < 7) (S : K_St) : f_St_mustPrecede N (nI p) (nI a) S = some (if bz (rdO S.2.2.1 7 (S.2.2.1 a)) p = true then 1 else 0, S) := by
  unfold f_St_mustPrecede
  rw [if_pos (nI_xi ha (by omega)), nI_clamp (by omega), ← nI_0, mp10 N hN hp S 7 0 N _ rfl (by omega)]
  rfl
theorem mb18 (N : Nat) (k9 : Int32 → Int32 → K_Mo → Option (Int32 × K_Mo)) (x3 : Int32) (V : K_Mo) : ∀ (j k n : Nat) (R : Int32), k + j = 7 → j < n → f_Mo_before_18 N k9 n R x3 (nI k) V = k9 (rdI V.2.2.2.1 j k R) (x3 + 1) V := by
  intro j
  induction j with
  | zero =>
    intro k n R hk hn
    obtain ⟨n, rfl⟩ : ∃ m, n = m + 1 := ⟨n - 1, by omega⟩
    rw [f_Mo_before_18, if_pos (le7 (k := k) (by omega) (by omega))]
    rfl
  | succ j ih =>
    intro k n R hk hn
    obtain ⟨n, rfl⟩ : ∃ m, n = m + 1 := ⟨n - 1, by omega⟩
    rw [f_Mo_before_18, if_neg (nle7 (k := k) (by omega)), nI_1, nI_clamp (by omega), if_pos (nI_xi (i := k) (n := 7) (by omega) (by omega)), rdI]
    by_cases hb : bz R k = true
    · rw [if_neg (by rw [mo_bit (by omega), hb]; simp), if_pos hb]
      exact ih (k + 1) n _ (by omega) (by omega)
    · rw [if_pos (by rw [mo_bit (by omega)]; simpa using hb), if_neg hb]
      exact ih (k + 1) n _ (by omega) (by omega)
theorem mb9 (N : Nat) (hN : 50 ≤ N) (V : K_Mo) : ∀ (r k n : Nat) (R : Int32), k + r = 7 → r < n → f_Mo_before_9 N n R (nI k) V = some (rdO V.2.2.2.1 r R, V) := by
  intro r
  induction r with
  | zero =>
    intro k n R hk hn
    obtain ⟨n, rfl⟩ : ∃ m, n = m + 1 := ⟨n - 1, by omega⟩
    rw [f_Mo_before_9, if_pos (le7 (k := k) (by omega) (by omega))]
    rfl
  | succ r ih =>
    intro k n R hk hn
    obtain ⟨n, rfl⟩ : ∃ m, n = m + 1 := ⟨n - 1, by omega⟩
    rw [f_Mo_before_9, if_neg (nle7 (k := k) (by omega)), ← nI_0, mb18 N _ _ V 7 0 N R rfl (by omega), nI_1, ih (k + 1) n _ (by omega) (by omega)]
    rfl
theorem mb_eq (N : Nat) (hN : 50 ≤ N) {a : Nat} (ha : a < 7) (V : K_Mo) : f_Mo_before N (nI a) V = some (rdO V.2.2.2.1 7 (V.2.2.2.1 a), V) := by
  unfold f_Mo_before
  rw [if_pos (nI_xi ha (by omega)), nI_clamp (by omega), ← nI_0, mb9 N hN V 7 0 N _ rfl (by omega)]
/-- what a note leaves -/
def Nt (a b : Nat) (S S' : K_St) : Prop := ∃ S1, Ws S S1 ∧ ((a = b ∧ S' = S1) ∨ (a ≠ b ∧ S' = adE a b S1))
theorem note_both (N : Nat) (hN : 100000000 ≤ N) {S : K_St} (hS : IS S) {a b : Nat} (ha : a < 7) (hb : b < 7) : ∃ res S', f_St_note N (nI a) (nI b) S = some (res, S') ∧ IS S' ∧
    ((res = 1 ∧ Nt a b S S' ∧ ∀ cb ch pl th rf, ∃ pl', f_Mo_note N (nI a) (nI b) (mkV S cb ch pl th 0 rf) = some ((), mkV S' cb ch pl' th 0 rf)) ∨
     (res = 0 ∧ ∀ cb ch pl th rf, ∃ pl', f_Mo_note N (nI a) (nI b) (mkV S cb ch pl th 0 rf) = some ((), mkV S' cb ch pl' th 1 rf))) := by
  obtain ⟨ρ, hR⟩ := hS.2.2.2.2.2.1
  obtain ⟨r1, r2, r3⟩ := rd_all hR hS.2.2.2.1 ha
  have mnote : ∀ cb ch pl th rf, f_Mo_note N (nI a) (nI b) (mkV S cb ch pl th 0 rf) = (if bz (rdO S.2.2.1 7 (S.2.2.1 a)) b = false then (if (0 : Int32) = 0 then (if nI a = nI b then some ((), mkV S cb ch pl th 0 rf) else some ((), mkV (adE a b S) cb ch pl th 0 rf)) else some ((), mkV S cb ch pl th 0 rf)) else ((f_Mo_store N (nI b) (mkV S cb ch pl th 0 rf)).bind fun z6 => (if z6.2.2.2.2.2.2.2.2.2.2.2.2.1 = 0 then (if nI a = nI b then some ((), z6.2) else some ((), (z6.2.1, (z6.2.2.1, (z6.2.2.2.1, ((upd z6.2.2.2.2.1 b ((z6.2.2.2.2.1 b) ||| ((1 : Int32) <<< (nI a &&& 31)))), z6.2.2.2.2.2)))))) else some ((), z6.2)))) := by
    intro cb ch pl th rf
    unfold f_Mo_note
    rw [if_pos (show (mkV S cb ch pl th 0 rf).2.2.2.2.2.2.2.2.2.2.2.1 = 0 from rfl), mb_eq N (by omega) ha]
    simp only [Option.bind_some]
    rw [show (mkV S cb ch pl th 0 rf).2.2.2.1 = S.2.2.1 from rfl]
    rw [if_pos (nI_xi hb (by omega)), if_pos (nI_xi hb (by omega)), nI_clamp (by omega)]
    by_cases hbz : bz (rdO S.2.2.1 7 (S.2.2.1 a)) b = false
    · rw [if_pos hbz, if_pos ((mo_bit hb _).mpr hbz)]
      rfl
    · rw [if_neg hbz, if_neg (fun h => hbz ((mo_bit hb _).mp h))]
      simp only [if_pos (nI_xi hb (show 7 < 2 ^ 31 by omega))]
  by_cases hab : a = b
  · subst hab
    refine ⟨1, S, ?_, hS, Or.inl ⟨rfl, ⟨S, Ws.refl S, Or.inl ⟨rfl, rfl⟩⟩, fun cb ch pl th rf => ⟨pl, ?_⟩⟩⟩
    · unfold f_St_note; rw [if_pos rfl]
    · rw [mnote, if_pos, if_pos rfl, if_pos rfl]
      cases h : bz (rdO S.2.2.1 7 (S.2.2.1 a)) a
      · rfl
      · have := (r1 a h).2; omega
  · have hne : ¬ nI a = nI b := fun h => hab ((nI_eq (by omega) (by omega)).mp h)
    by_cases hbz : bz (rdO S.2.2.1 7 (S.2.2.1 a)) b = false
    · have hIS : IS (adE a b S) := hS.adE ha ⟨fun x => if x = a ∨ bz (rdO S.2.2.1 7 (S.2.2.1 a)) x = true then ρ x else ρ x + 7, fun p q hp hq he => by
          have := hR.2 p q hp hq he
          have h7 := hR.1 p
          by_cases hqA : q = a ∨ bz (rdO S.2.2.1 7 (S.2.2.1 a)) q = true
          · have : p = a ∨ bz (rdO S.2.2.1 7 (S.2.2.1 a)) p = true := by
              right
              rcases hqA with rfl | hqA
              · exact r2 p he
              · exact r3 q p hqA he
            dsimp only
            rw [if_pos hqA, if_pos this]; omega
          · dsimp only
            rw [if_neg hqA]; split <;> omega, by
          have h7 := hR.1 a
          dsimp only
          rw [if_pos (Or.inl rfl), if_neg (by rintro (h | h); exact hab h.symm; rw [hbz] at h; cases h)]; omega⟩
      refine ⟨1, adE a b S, ?_, hIS, Or.inl ⟨rfl, ⟨S, Ws.refl S, Or.inr ⟨hab, rfl⟩⟩, fun cb ch pl th rf => ⟨pl, ?_⟩⟩⟩
      · unfold f_St_note
        rw [if_neg hne, mp_eq N (by omega) hb ha, if_neg (by rw [hbz]; simp)]
        simp only [Option.bind_some]
        rw [if_pos trivial, if_pos (nI_xi hb (by omega)), if_pos (nI_xi hb (by omega)), nI_clamp (by omega)]
        rfl
      · rw [mnote, if_pos hbz, if_pos rfl, if_neg hne]
    · have hbz' : bz (rdO S.2.2.1 7 (S.2.2.1 a)) b = true := by simpa using hbz
      obtain ⟨res, S1, g1, g2⟩ := put_root N hN hS hb
      rcases g2 with ⟨rfl, gW, gd, ge, gs⟩ | ⟨rfl, gI, gs⟩
      · have hR1 := gW.rho hR
        have hIS : IS (adE a b S1) := (gW.is hS).adE ha ⟨fun x => if x = b then ρ x + 7 else ρ x, fun p q hp hq he => by
            have := hR1.2 p q hp hq he
            have hpb : p ≠ b := fun h => by subst h; rw [ge q hq] at he; cases he
            dsimp only
            rw [if_neg hpb]; split <;> omega, by
            have h7 := hR.1 a
            dsimp only
            rw [if_neg hab, if_pos rfl]; omega⟩
        refine ⟨1, adE a b S1, ?_, hIS, Or.inl ⟨rfl, ⟨S1, gW, Or.inr ⟨hab, rfl⟩⟩, fun cb ch pl th rf => ?_⟩⟩
        · unfold f_St_note
          rw [if_neg hne, mp_eq N (by omega) hb ha, if_pos hbz']
          simp only [Option.bind_some]
          rw [if_neg (by decide), g1]
          simp only [Option.bind_some]
          rw [if_neg (by decide), if_pos (nI_xi hb (by omega)), if_pos (nI_xi hb (by omega)), nI_clamp (by omega)]
          rfl
        · obtain ⟨pl', gs⟩ := gs cb ch pl th rf
          refine ⟨pl', ?_⟩
          rw [mnote, if_neg hbz, gs]
          simp only [Option.bind_some]
          rw [if_pos (show (mkV S1 cb ch pl' th 0 rf).2.2.2.2.2.2.2.2.2.2.2.1 = 0 from rfl), if_neg hne]
          rfl
      · refine ⟨0, S1, ?_, gI, Or.inr ⟨rfl, fun cb ch pl th rf => ?_⟩⟩
        · unfold f_St_note
          rw [if_neg hne, mp_eq N (by omega) hb ha, if_pos hbz']
          simp only [Option.bind_some]
          rw [if_neg (by decide), g1]
          rfl
        · obtain ⟨pl', gs⟩ := gs cb ch pl th rf
          refine ⟨pl', ?_⟩
          rw [mnote, if_neg hbz, gs]
          simp only [Option.bind_some]
          rw [if_neg (show ¬ (mkV S1 cb ch pl' th 1 rf).2.2.2.2.2.2.2.2.2.2.2.1 = 0 from by show ¬ (1 : Int32) = 0; decide)]
end PN
