/-! THE PURE PART, 5: the invariant of a store; one page written, a crash: both sides -/
section PS
theorem Gd.congr {bM lM bD lD bM' lM' bD' lD' : Nat → Nat} {dt dt' : Nat → Bool} {E E' : Nat → Nat → Bool} (h : Gd bM lM bD lD dt E) (h1 : ∀ i, i < 15 → bM' i = bM i) (h2 : ∀ i, i < 15 → lM' i = lM i) (h3 : ∀ i, i < 15 → bD' i = bD i) (h4 : ∀ i, i < 15 → lD' i = lD i) (h5 : ∀ p, dt' p = dt p) (h6 : ∀ p q, E p q = true → E' p q = true) : Gd bM' lM' bD' lD' dt' E' := by
  have hdt : dt' = dt := funext h5
  subst hdt
  obtain ⟨g1, ⟨R, Q, hR, hQR, hQ1, hQ2, hQ3⟩, g3⟩ := h.note h6
  have hl : ∀ i, R i → i < 15 := fun i hi => (hR.2.1 i hi).1
  refine ⟨fun P hP => ?_, ⟨R, Q, hR.congr h1 h2, hQR, fun r hr hn => hQ1 r hr (by rw [← h1 r (by omega)]; exact hn), fun r i hq hn => ?_, fun r s hr hs h6 => ?_⟩, fun i hi hd => ?_⟩
  · obtain ⟨R', hR'⟩ := g1 P hP
    refine ⟨R', hR'.congr (fun i hi => ?_) (fun i hi => ?_)⟩
    · unfold mx; rw [h1 i hi, h3 i hi]
    · unfold mx; rw [h2 i hi, h4 i hi]
  · have := hl i (hQR r i hq)
    rw [h2 i this] at hn ⊢
    exact hQ2 r i hq hn
  · have hs15 := hl s (hQR r s hs)
    rcases hQ3 r s hr hs h6 with g | ⟨g1, g2⟩
    · exact Or.inl g
    · refine Or.inr ⟨by rw [h1 s hs15, h3 s hs15]; exact g1, ?_⟩
      rw [h2 s hs15, h4 s hs15]; exact g2
  · rw [h1 i hi, h2 i hi, h3 i hi, h4 i hi]; exact g3 i hi hd
def dtF (S : K_St) : Nat → Bool := fun p => bz S.2.2.2.1 p
def eF (S : K_St) : Nat → Nat → Bool := fun p q => bz (S.2.2.1 q) p
def Rho (ρ : Nat → Nat) (e : Nat → Int32) : Prop := (∀ p, ρ p < 7) ∧ ∀ p q, p < 7 → q < 7 → bz (e q) p = true → ρ p < ρ q
def GS (S : K_St) : Prop := Gd (bF S.1) (lF S.1) (bF S.2.1) (lF S.2.1) (dtF S) (eF S)
def IS (S : K_St) : Prop := Bd S.1 ∧ Bd S.2.1 ∧ Mk S.2.2.2.1 ∧ (∀ q, Mk (S.2.2.1 q)) ∧ (∃ k, k ≤ 50 ∧ S.2.2.2.2.2.2 = nI k) ∧ (∃ ρ, Rho ρ S.2.2.1) ∧ cA S.1.2.2.2 40 ≤ 4 ∧ GS S
/-- page p is written; f' is what is left of the failure's count -/
def wrS (p : Nat) (f' : Int32) (S : K_St) : K_St := (S.1, (tk p S.2.1 S.1, (eN p S.2.2.1, (S.2.2.2.1 &&& (((1 : Int32) <<< (nI p &&& 31)) ^^^ (-1 : Int32)), (S.2.2.2.2.1 + 1, (S.2.2.2.2.2.1, f'))))))
theorem tkR_at (p : Nat) (D M : Nat → Int32) (i : Nat) : tkR p D M i = M i ∨ tkR p D M i = D i := by unfold tkR; split <;> simp
theorem Bd.tk {D M : K_Co} (hD : Bd D) (hM : Bd M) (p : Nat) : Bd (tk p D M) := by
  obtain ⟨a1, a2, a3, a4, a5⟩ := hD
  obtain ⟨b1, b2, b3, b4, b5⟩ := hM
  refine ⟨fun i hi => ?_, fun i hi => ?_, fun i hi => ?_, ?_, fun i j h1 h2 h3 => ?_⟩
  · show ∃ k, k ≤ 40 ∧ tkR p D.1 M.1 i = nI k
    rcases tkR_at p D.1 M.1 i with e | e <;> rw [e]
    · exact b1 i hi
    · exact a1 i hi
  · show tkR p D.2.1 M.2.1 i = -1 ∨ 0 ≤ tkR p D.2.1 M.2.1 i
    rcases tkR_at p D.2.1 M.2.1 i with e | e <;> rw [e]
    · exact b2 i hi
    · exact a2 i hi
  · show tkR p D.2.2.1 M.2.2.1 i = -1 ∨ ∃ k, 6 ≤ k ∧ k < 15 ∧ tkR p D.2.2.1 M.2.2.1 i = nI k
    rcases tkR_at p D.2.2.1 M.2.2.1 i with e | e <;> rw [e]
    · exact b3 i hi
    · exact a3 i hi
  · show tkS p D.2.2.2 M.2.2.2 0 = 0
    unfold tkS; split
    · exact b4
    · exact a4
  · show tkS p D.2.2.2 M.2.2.2 i = 0 → tkS p D.2.2.2 M.2.2.2 j = 0
    unfold tkS
    by_cases hp : p = 6
    · rw [if_pos ⟨hp, by omega⟩, if_pos ⟨hp, by omega⟩]; exact b5 i j h1 h2 h3
    · rw [if_neg (fun h => hp h.1), if_neg (fun h => hp h.1)]; exact a5 i j h1 h2 h3
theorem bF_tk (p : Nat) (D M : K_Co) (i : Nat) (hi : i < 15) : bF (tk p D M) i = mx (fun q => q == p) (bF M) (bF D) i := by
  unfold bF mx tk tkR
  by_cases h : pgN i = p <;> simp [h, hi]
theorem lF_tk (p : Nat) (D M : K_Co) (i : Nat) (hi : i < 15) : lF (tk p D M) i = mx (fun q => q == p) (lF M) (lF D) i := by
  unfold lF mx tk tkR
  by_cases h : pgN i = p <;> simp [h, hi]
theorem bz_eN {p : Nat} (hp : p < 7) (e : Nat → Int32) (q i : Nat) : bz (eN p e q) i = true → bz (e q) i = true := by
  unfold eN
  by_cases h : q < 7
  · rw [if_pos h, bz_not hp]; intro h; simp at h; exact h.1
  · rw [if_neg h]; exact id
theorem IS.wr {S : K_St} (h : IS S) {p : Nat} (hp : p < 7) {f' : Int32} (hf : ∃ k, k ≤ 50 ∧ f' = nI k) (hq : ∀ q, q < 7 → bz (S.2.2.1 p) q = true → bz S.2.2.2.1 q = false) : IS (wrS p f' S) := by
  obtain ⟨h1, h2, h3, h4, h5, ⟨ρ, h6, h6'⟩, h7, h8⟩ := h
  refine ⟨h1, h2.tk h1 p, h3.not hp, fun q => ?_, hf, ⟨ρ, h6, fun a b ha hb hab => h6' a b ha hb (bz_eN hp _ _ _ hab)⟩, h7, ?_⟩
  · show Mk (eN p S.2.2.1 q)
    unfold eN
    split
    · exact (h4 q).not hp
    · exact h4 q
  · have := Gd.write h8 p (fun q hE => by
      by_cases hq7 : q < 7
      · exact hq q hq7 hE
      · exact h3 q (by omega))
    refine this.congr (fun _ _ => rfl) (fun _ _ => rfl) (fun i hi => bF_tk p _ _ i hi) (fun i hi => lF_tk p _ _ i hi) (fun q => ?_) (fun a b hab => ?_)
    · show bz (S.2.2.2.1 &&& _) q = (bz S.2.2.2.1 q && !(q == p))
      rw [bz_not hp]
      by_cases hqp : q = p <;> simp [hqp]
    · show bz (eN p S.2.2.1 b) a = true
      simp only [Bool.and_eq_true, Bool.not_eq_true', beq_eq_false_iff_ne] at hab
      unfold eN
      split
      · rw [bz_not hp]; simp [show bz (S.2.2.1 b) a = true from hab.1, hab.2]
      · exact hab.1
/-- S' comes out of S by pages written in a lawful order -/
def Ws (S S' : K_St) : Prop := ∀ J : K_St → Prop, (∀ T p f', p < 7 → (∃ k, k ≤ 50 ∧ f' = nI k) → (∀ q, q < 7 → bz (T.2.2.1 p) q = true → bz T.2.2.2.1 q = false) → J T → J (wrS p f' T)) → J S → J S'
theorem Ws.refl (S : K_St) : Ws S S := fun _ _ h => h
theorem Ws.trans {S T R : K_St} (h : Ws S T) (g : Ws T R) : Ws S R := fun J hJ hS => g J hJ (h J hJ hS)
theorem Ws.one {S : K_St} {p : Nat} {f' : Int32} (hp : p < 7) (hf : ∃ k, k ≤ 50 ∧ f' = nI k) (hq : ∀ q, q < 7 → bz (S.2.2.1 p) q = true → bz S.2.2.2.1 q = false) : Ws S (wrS p f' S) := fun J hJ hS => hJ S p f' hp hf hq hS
theorem Ws.is {S S' : K_St} (h : Ws S S') (hS : IS S) : IS S' := h IS (fun T p f' hp hf hq hT => hT.wr hp hf hq) hS
theorem Ws.mem {S S' : K_St} (h : Ws S S') : S'.1 = S.1 := h (fun T => T.1 = S.1) (fun T p f' _ _ _ hT => hT) rfl
theorem Ws.d {S S' : K_St} (h : Ws S S') : ∀ q, bz S'.2.2.2.1 q = true → bz S.2.2.2.1 q = true := h (fun T => ∀ q, bz T.2.2.2.1 q = true → bz S.2.2.2.1 q = true) (fun T p f' hp _ _ hT q hq => hT q (by
  have : bz (T.2.2.2.1 &&& (((1 : Int32) <<< (nI p &&& 31)) ^^^ (-1 : Int32))) q = true := hq
  rw [bz_not hp] at this; simp at this; exact this.1)) (fun _ h => h)
theorem Ws.e {S S' : K_St} (h : Ws S S') : ∀ r q, bz (S'.2.2.1 r) q = true → bz (S.2.2.1 r) q = true := h (fun T => ∀ r q, bz (T.2.2.1 r) q = true → bz (S.2.2.1 r) q = true) (fun T p f' hp _ _ hT r q hq => hT r q (bz_eN hp _ _ _ hq)) (fun _ _ h => h)
theorem Ws.rho {S S' : K_St} (h : Ws S S') {ρ : Nat → Nat} (hr : Rho ρ S.2.2.1) : Rho ρ S'.2.2.1 := ⟨hr.1, fun p q hp hq he => hr.2 p q hp hq (h.e q p he)⟩
/-- a crash, both sides -/
theorem fall_both (N : Nat) (hN : 50 ≤ N) {S : K_St} (hS : IS S) : ∃ S', f_St_fall N S = some ((), S') ∧ IS S' ∧ ∀ cb ch pl th cr rf, f_Mo_fall N (mkV S cb ch pl th cr rf) = some ((), mkV S' cb ch pl th 1 rf) := by
  obtain ⟨⟨m1, m2, m3, m4⟩, ⟨d1, d2, d3, d4⟩, e, d, w, c, f⟩ := S
  obtain ⟨h1, h2, h3, h4, h5, h6, h7, h8⟩ := hS
  have hm0 : m4 0 = 0 := h1.2.2.2.1
  have hd0 : d4 0 = 0 := h2.2.2.2.1
  have hall := fun cb ch pl th cr rf => fall80 N (tkF 0 m1 d1, (tkF 0 m2 d2, tkF 0 m3 d3)) (tkF 0 m1 d1, (tkF 0 m2 d2, fun i => cv (tkF 0 m3 d3 i))) (d1, (d2, (d3, d4))) (vC (d1, (d2, (d3, d4)))) rfl (fun q => if 0 ≤ q ∧ q < 7 then 0 else e q) w (c + 1) f (fun q => if 0 ≤ q ∧ q < 7 then 0 else e q) ch cb pl th w c f cr rf 40 1 N (tkG 0 m4 d4) m4 0 rfl (by omega) (by omega) Mk.zero (fun i g1 g2 => by unfold tkG; rw [if_pos ⟨by omega, g2⟩]) (fun i hi => by
    unfold tkG
    by_cases h0 : i < 41
    · rw [if_pos ⟨by omega, h0⟩]
      have : i = 0 := by omega
      subst this; rw [hm0]; exact hd0.symm
    · rw [if_neg (fun h => h0 h.2)])
  obtain ⟨st', d', g1, g2, g3, g4, g5⟩ := hall (fun _ => 0) (fun _ => 0) (fun _ => 0) 0 0 0
  have hst : ∀ i, 1 ≤ i → i < 41 → st' i = if d4 i = 1 then 3 else d4 i := fun i q1 q2 => by
    rw [g2 i q1 q2, show tkG 0 m4 d4 i = d4 i from if_pos ⟨by omega, q2⟩]
  have hr : ∀ (m d : Nat → Int32) i, i < 15 → tkF 0 m d i = d i := fun m d i hi => by unfold tkF; rw [if_pos ⟨by omega, hi⟩]
  refine ⟨((tkF 0 m1 d1, (tkF 0 m2 d2, (tkF 0 m3 d3, st'))), ((d1, (d2, (d3, d4))), ((fun q => if 0 ≤ q ∧ q < 7 then 0 else e q), (d', (w, (c + 1, f)))))), ?_, ?_, ?_⟩
  · unfold f_St_fall
    rw [← nI_0, fall2 N _ d w c f 7 0 N m1 m2 m3 m4 e rfl (by omega)]
    exact g4
  · refine ⟨⟨fun i hi => ?_, fun i hi => ?_, fun i hi => ?_, ?_, ?_⟩, h2, g1, fun q => ?_, h5, ⟨fun _ => 0, fun _ => Nat.zero_lt_succ 6, fun p q hp hq he => ?_⟩, ?_, ?_⟩
    · dsimp only; rw [hr _ _ i hi]; exact h2.1 i hi
    · dsimp only; rw [hr _ _ i hi]; exact h2.2.1 i hi
    · dsimp only; rw [hr _ _ i hi]; exact h2.2.2.1 i hi
    · dsimp only; rw [g3 0 (by omega)]; unfold tkG; rw [if_pos (by omega)]; exact hd0
    · intro i j q1 q2 q3 q4
      dsimp only at q4 ⊢
      rw [hst i q1 (by omega)] at q4
      rw [hst j (by omega) (by omega)]
      by_cases hi : d4 i = 1
      · rw [if_pos hi] at q4; exact absurd q4 (by decide)
      · rw [if_neg hi] at q4
        have : d4 j = 0 := h2.2.2.2.2 i j q1 q2 q3 q4
        rw [this]; rfl
    · dsimp only; split
      · exact Mk.zero
      · exact h4 q
    · dsimp only at he; rw [if_pos ⟨by omega, hq⟩, bz_0] at he; cases he
    · rw [cA_zero 40 (fun i q1 q2 => by
        dsimp only; rw [hst i q1 (by omega)]; split
        · decide
        · assumption)]
      omega
    · refine Gd.congr (Gd.crash h8) (fun i hi => ?_) (fun i hi => ?_) (fun _ _ => rfl) (fun _ _ => rfl) (fun _ => rfl) (fun _ _ h => h)
      · unfold bF; dsimp only; rw [hr _ _ i hi]
      · unfold lF; simp only [hr _ _ i hi]
  · intro cb ch pl th cr rf
    obtain ⟨st2, d2', k1, k2, k3, k4, k5⟩ := hall cb ch pl th cr rf
    have := g4.symm.trans k4
    simp only [Option.some.injEq, Prod.mk.injEq, true_and] at this
    obtain ⟨e1, e2⟩ : st' = st2 ∧ d' = d2' := by refine ⟨?_, ?_⟩ <;> simp_all
    rw [e1, e2]
    unfold f_Mo_fall mkV vC
    dsimp only
    rw [← nI_0, mfall2 N _ _ _ 15 0 N _ _ _ rfl (by omega)]
    dsimp only
    rw [← nI_0, mfall52 N _ _ _ 7 0 N _ _ rfl (by omega)]
    have e3 : (fun q => if 0 ≤ q ∧ q < 7 then 0 else dA d q) = dA 0 := by
      funext q
      unfold dA
      rw [bz_0]
      by_cases hq : q < 7
      · rw [if_pos ⟨by omega, hq⟩]; simp
      · rw [if_neg (by omega)]; simp [hq]
    have e4 : ∀ (m d : Nat → Int32), (fun i => if 0 ≤ i ∧ i < 15 then d i else m i) = tkF 0 m d := by
      intro m d; funext i; unfold tkF
      by_cases hi : i < 15
      · rw [if_pos ⟨by omega, hi⟩, if_pos ⟨by omega, hi⟩]
      · rw [if_neg (by omega), if_neg (by omega)]
    have e5 : (fun i => if 0 ≤ i ∧ i < 15 then cv (d3 i) else cv (m3 i)) = fun i => cv (tkF 0 m3 d3 i) := by
      funext i; unfold tkF
      by_cases hi : i < 15
      · rw [if_pos ⟨by omega, hi⟩, if_pos ⟨by omega, hi⟩]
      · rw [if_neg (by omega), if_neg (by omega)]
    rw [e3, e4, e4, e5]
    exact k5
/-- one page, the reference -/
theorem mput (N : Nat) (hN : 50 ≤ N) {S : K_St} (hS : IS S) {p : Nat} (hp : p < 7) {k : Nat} (hk : k ≤ 50) (hf : S.2.2.2.2.2.2 = nI k) (h1 : k ≠ 1) (cb : Nat → Int64) (ch pl : Nat → Int32) (th cr rf : Int32) :
    f_Mo_put N (nI p) (mkV S cb ch pl th cr rf) = some ((), mkV (wrS p (nI (k - 1)) S) cb ch pl th cr rf) := by
  obtain ⟨⟨m1, m2, m3, m4⟩, ⟨d1, d2, d3, d4⟩, e, d, w, c, f⟩ := S
  dsimp only at hf
  subst hf
  have hm0 : m4 0 = 0 := hS.1.2.2.2.1
  have hd0 : d4 0 = 0 := hS.2.1.2.2.2.1
  have key : ∀ x : Int32, f_Mo_put_37 N N (nI p) 0 (mkV ((m1, (m2, (m3, m4))), ((d1, (d2, (d3, d4))), (e, (d, (w, (c, x)))))) cb ch pl th cr rf) = some ((), mkV (wrS p x ((m1, (m2, (m3, m4))), ((d1, (d2, (d3, d4))), (e, (d, (w, (c, x))))))) cb ch pl th cr rf) := by
    intro x
    unfold mkV vC wrS tk
    dsimp only
    rw [← nI_0, mo37 N hp _ _ _ _ _ _ 15 0 N _ _ _ rfl (by omega), zl1, mo98 N hp _ _ _ _ _ _ _ _ 40 1 N _ rfl (by omega), ← nI_0, mo137 N p _ _ _ _ _ _ _ _ _ 7 0 N _ rfl (by omega)]
    dsimp only
    rw [nI_0, dA_not _ hp]
    have e1 : (fun q => if 0 ≤ q ∧ q < 7 then e q &&& (((1 : Int32) <<< (nI p &&& 31)) ^^^ (-1 : Int32)) else e q) = eN p e := by
      funext q; unfold eN
      by_cases hq : q < 7
      · rw [if_pos ⟨by omega, hq⟩, if_pos hq]
      · rw [if_neg (by omega), if_neg hq]
    have e2 : ∀ m d : Nat → Int32, (fun i => if 0 ≤ i ∧ i < 15 ∧ pgN i = p then m i else d i) = tkR p d m := by
      intro m d; funext i; unfold tkR
      by_cases hi : pgN i = p ∧ i < 15
      · rw [if_pos hi, if_pos ⟨by omega, hi.2, hi.1⟩]
      · rw [if_neg hi, if_neg (fun h => hi ⟨h.2.2, h.2.1⟩)]
    have e3 : (fun i => if 0 ≤ i ∧ i < 15 ∧ pgN i = p then cv (m3 i) else cv (d3 i)) = fun i => cv (tkR p d3 m3 i) := by
      funext i; unfold tkR
      by_cases hi : pgN i = p ∧ i < 15
      · rw [if_pos hi, if_pos ⟨by omega, hi.2, hi.1⟩]
      · rw [if_neg hi, if_neg (fun h => hi ⟨h.2.2, h.2.1⟩)]
    have e4 : (fun i => if p = 6 ∧ 1 ≤ i ∧ i < 41 then m4 i else d4 i) = tkS p d4 m4 := by
      funext i; unfold tkS
      by_cases hp6 : p = 6
      · by_cases hi : i < 41
        · rw [if_pos (c := p = 6 ∧ i < 41) ⟨hp6, hi⟩]
          by_cases h0 : i = 0
          · subst h0; rw [if_neg (by omega), hd0, hm0]
          · rw [if_pos ⟨hp6, by omega, hi⟩]
        · rw [if_neg (by omega), if_neg (by omega)]
      · rw [if_neg (fun h => hp6 h.1), if_neg (fun h => hp6 h.1)]
    rw [e1, e2, e2, e3, e4]
    rfl
  unfold f_Mo_put
  have hl : (mkV ((m1, (m2, (m3, m4))), ((d1, (d2, (d3, d4))), (e, (d, (w, (c, nI k)))))) cb ch pl th cr rf).2.2.2.2.2.2.2.2.2.2.1 = nI k := rfl
  rw [hl, if_neg (by rw [zl1, nI_eq (by omega) (by omega)]; exact h1)]
  by_cases h0 : k = 0
  · subst h0
    rw [if_pos (by decide)]
    exact key (nI 0)
  · rw [if_neg (by rw [zl0, nI_leI (by omega) (by omega)]; omega)]
    obtain ⟨j, rfl⟩ : ∃ j, k = j + 1 := ⟨k - 1, by omega⟩
    rw [nI_pred]
    exact key (nI j)
end PS
