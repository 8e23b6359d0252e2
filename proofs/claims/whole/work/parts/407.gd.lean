/-! THE PURE PART, 8: what change, clean and sweep do to the shape -/
section PG
def nu (f : Nat → Nat) (k x : Nat) : Nat → Nat := fun i => if i = k then x else f i
theorem nu_s (f : Nat → Nat) (k x : Nat) : nu f k x k = x := if_pos rfl
theorem nu_o (f : Nat → Nat) {k j : Nat} (x : Nat) (h : j ≠ k) : nu f k x j = f j := if_neg h
theorem mx_nut {P : Nat → Bool} {r : Nat} (h : P (pgN r) = true) (f g : Nat → Nat) (x : Nat) : mx P (nu f r x) g = nu (mx P f g) r x := by
  funext i
  unfold mx nu
  by_cases hi : i = r
  · subst hi; rw [if_pos h, if_pos rfl, if_pos rfl]
  · simp only [if_neg hi]
theorem mx_nuf {P : Nat → Bool} {r : Nat} (h : ¬ P (pgN r) = true) (f g : Nat → Nat) (x : Nat) : mx P (nu f r x) g = mx P f g := by
  funext i
  unfold mx nu
  by_cases hi : i = r
  · subst hi; rw [if_neg h, if_neg h]
  · simp only [if_neg hi]
theorem Cert.fill {b l : Nat → Nat} {R : Nat → Prop} (h : Cert b l R) {r T : Nat} (hr : r < 6) (h0 : b r = 0) (hT : T ≠ 0) : Cert (nu b r T) (nu l r 0) (fun i => R i ∨ i = r) := by
  obtain ⟨h1, h2, h3⟩ := h
  have hnr : ¬ R r := fun hR => (h2 r hR).2.1 h0
  refine ⟨fun q hq hn => ?_, fun i hi => ?_, fun i j hi hj hn he => ?_⟩
  · by_cases hqr : q = r
    · exact Or.inr hqr
    · rw [nu_o _ _ hqr] at hn; exact Or.inl (h1 q hq hn)
  · by_cases hir : i = r
    · subst hir; rw [nu_s, nu_s]; exact ⟨by omega, hT, fun h => absurd rfl h⟩
    · rcases hi with hi | hi
      · obtain ⟨g1, g2, g3⟩ := h2 i hi
        rw [nu_o _ _ hir, nu_o _ _ hir]
        refine ⟨g1, g2, fun hn => ?_⟩
        obtain ⟨k1, k2, k3⟩ := g3 hn
        rw [nu_o _ _ (by omega)]
        exact ⟨k1, Or.inl k2, k3⟩
      · exact absurd hi hir
  · by_cases hir : i = r
    · subst hir; rw [nu_s] at hn; exact absurd rfl hn
    · rw [nu_o _ _ hir] at hn he
      by_cases hjr : j = r
      · subst hjr; rw [nu_s] at he; exact absurd he hn
      · rw [nu_o _ _ hjr] at he
        rcases hi with hi | hi
        · rcases hj with hj | hj
          · exact h3 i j hi hj hn he
          · exact absurd hj hjr
        · exact absurd hi hir
theorem Cert.empty {b l : Nat → Nat} {R : Nat → Prop} (h : Cert b l R) {r : Nat} (hr : r < 6) (x : Nat) : Cert (nu b r 0) (nu l r x) (fun i => R i ∧ i ≠ r) := by
  obtain ⟨h1, h2, h3⟩ := h
  refine ⟨fun q hq hn => ?_, fun i hi => ?_, fun i j hi hj hn he => ?_⟩
  · by_cases hqr : q = r
    · subst hqr; rw [nu_s] at hn; exact absurd rfl hn
    · rw [nu_o _ _ hqr] at hn; exact ⟨h1 q hq hn, hqr⟩
  · obtain ⟨g1, g2, g3⟩ := h2 i hi.1
    rw [nu_o _ _ hi.2, nu_o _ _ hi.2]
    refine ⟨g1, g2, fun hn => ?_⟩
    obtain ⟨k1, k2, k3⟩ := g3 hn
    rw [nu_o _ _ (by omega)]
    exact ⟨k1, ⟨k2, by omega⟩, k3⟩
  · rw [nu_o _ _ hi.2] at hn he
    rw [nu_o _ _ hj.2] at he
    exact h3 i j hi.1 hj.1 hn he
theorem Cert.slot {b l : Nat → Nat} {R : Nat → Prop} (h : Cert b l R) {s : Nat} (hs : 6 ≤ s) (hn : ¬ R s) (x y : Nat) : Cert (nu b s x) (nu l s y) R := by
  obtain ⟨h1, h2, h3⟩ := h
  have ne : ∀ i, R i → i ≠ s := fun i hi e => hn (e ▸ hi)
  refine ⟨fun q hq hn => ?_, fun i hi => ?_, fun i j hi hj hn he => ?_⟩
  · rw [nu_o _ _ (by omega)] at hn; exact h1 q hq hn
  · obtain ⟨g1, g2, g3⟩ := h2 i hi
    rw [nu_o _ _ (ne i hi), nu_o _ _ (ne i hi)]
    refine ⟨g1, g2, fun hn => ?_⟩
    obtain ⟨k1, k2, k3⟩ := g3 hn
    rw [nu_o _ _ (ne _ k2)]
    exact ⟨k1, k2, k3⟩
  · rw [nu_o _ _ (ne i hi)] at hn he
    rw [nu_o _ _ (ne j hj)] at he
    exact h3 i j hi hj hn he
theorem Cert.new {b l : Nat → Nat} {R : Nat → Prop} (h : Cert b l R) {r s T : Nat} (hr : r < 6) (hs : 6 ≤ s) (hs2 : s < 15) (h0 : b s = 0) (hn : b r ≠ 0) (hT : b r < T) : Cert (nu (nu b s (b r)) r T) (nu (nu l s (l r)) r s) (fun i => R i ∨ i = s) := by
  have hRr := h.1 r hr hn
  have hns : ¬ R s := fun hR => (h.2.1 s hR).2.1 h0
  obtain ⟨h1, h2, h3⟩ := h
  have hrs : r ≠ s := by omega
  refine ⟨fun q hq hn => ?_, fun i hi => ?_, fun i j hi hj hn he => ?_⟩
  · by_cases hqr : q = r
    · subst hqr; exact Or.inl hRr
    · rw [nu_o _ _ hqr, nu_o _ _ (by omega)] at hn; exact Or.inl (h1 q hq hn)
  · by_cases hir : i = r
    · subst hir
      rw [nu_s, nu_s]
      refine ⟨by omega, by omega, fun _ => ⟨hs, Or.inr rfl, ?_⟩⟩
      rw [nu_o _ _ (Ne.symm hrs), nu_s]; exact hT
    · rw [nu_o _ _ hir, nu_o _ _ hir]
      by_cases his : i = s
      · subst his
        rw [nu_s, nu_s]
        refine ⟨hs2, hn, fun hn => ?_⟩
        obtain ⟨k1, k2, k3⟩ := (h2 r hRr).2.2 hn
        have q1 : l r ≠ r := by omega
        have q2 : l r ≠ i := fun e => hns (e ▸ k2)
        refine ⟨k1, Or.inl k2, ?_⟩
        rw [nu_o _ _ q1, nu_o _ _ q2]; exact k3
      · rw [nu_o _ _ his, nu_o _ _ his]
        rcases hi with hi | hi
        · obtain ⟨g1, g2, g3⟩ := h2 i hi
          refine ⟨g1, g2, fun hn => ?_⟩
          obtain ⟨k1, k2, k3⟩ := g3 hn
          have q1 : l i ≠ r := by omega
          have q2 : l i ≠ s := fun e => hns (e ▸ k2)
          refine ⟨k1, Or.inl k2, ?_⟩
          rw [nu_o _ _ q1, nu_o _ _ q2]; exact k3
        · exact absurd hi his
  · have tgt : ∀ i, R i → l i ≠ 0 → l i ≠ s := fun i hi hn e => hns (e ▸ ((h2 i hi).2.2 hn).2.1)
    have val : ∀ i, (R i ∨ i = s) → (i = r ∧ nu (nu l s (l r)) r s i = s) ∨ (i = s ∧ nu (nu l s (l r)) r s i = l r) ∨ (i ≠ r ∧ i ≠ s ∧ R i ∧ nu (nu l s (l r)) r s i = l i) := fun i hi => by
      by_cases hir : i = r
      · subst hir; exact Or.inl ⟨rfl, nu_s _ _ _⟩
      · by_cases his : i = s
        · subst his; exact Or.inr (Or.inl ⟨rfl, by rw [nu_o _ _ hir, nu_s]⟩)
        · exact Or.inr (Or.inr ⟨hir, his, hi.resolve_right his, by rw [nu_o _ _ hir, nu_o _ _ his]⟩)
    rcases val i hi with ⟨rfl, e1⟩ | ⟨rfl, e1⟩ | ⟨n1, n2, R1, e1⟩ <;> rcases val j hj with ⟨rfl, e2⟩ | ⟨rfl, e2⟩ | ⟨n3, n4, R2, e2⟩ <;> rw [e1] at hn he <;> rw [e2] at he
    · exact absurd he.symm (tgt _ hRr (by omega))
    · exact absurd he.symm (tgt _ R2 (by omega))
    · exact absurd he (tgt _ hRr hn)
    · exact absurd (h3 _ _ hRr R2 hn he).symm n3
    · exact absurd he (tgt _ R1 hn)
    · exact absurd (h3 _ _ R1 hRr hn he) n1
    · exact h3 _ _ R1 R2 hn he
theorem Cert.move {b l : Nat → Nat} {R : Nat → Prop} (h : Cert b l R) {r y : Nat} (hr : r < 6) (hR : R r) (hl : l r ≠ 0) (hy : y = l (l r) ∨ y = 0) : Cert (nu b r (b (l r))) (nu l r y) (fun i => R i ∧ i ≠ l r) := by
  obtain ⟨h1, h2, h3⟩ := h
  obtain ⟨s6, sR, sb⟩ := (h2 r hR).2.2 hl
  obtain ⟨t1, t2, t3⟩ := h2 _ sR
  have hself : ∀ i, R i → l i ≠ 0 → l i ≠ i := fun i hi hn e => by
    have := ((h2 i hi).2.2 hn).2.2
    rw [e] at this; omega
  refine ⟨fun q hq hn => ?_, fun i hi => ?_, fun i j hi hj hn he => ?_⟩
  · by_cases hqr : q = r
    · subst hqr; exact ⟨hR, by omega⟩
    · rw [nu_o _ _ hqr] at hn; exact ⟨h1 q hq hn, by omega⟩
  · by_cases hir : i = r
    · subst hir
      rw [nu_s, nu_s]
      refine ⟨by omega, t2, fun hn => ?_⟩
      rcases hy with rfl | rfl
      · obtain ⟨k1, k2, k3⟩ := t3 hn
        refine ⟨k1, ⟨k2, hself _ sR hn⟩, ?_⟩
        rw [nu_o _ _ (by omega)]; exact k3
      · exact absurd rfl hn
    · rw [nu_o _ _ hir, nu_o _ _ hir]
      obtain ⟨g1, g2, g3⟩ := h2 i hi.1
      refine ⟨g1, g2, fun hn => ?_⟩
      obtain ⟨k1, k2, k3⟩ := g3 hn
      refine ⟨k1, ⟨k2, fun e => hir (h3 i r hi.1 hR hn e)⟩, ?_⟩
      rw [nu_o _ _ (by omega)]; exact k3
  · by_cases hir : i = r
    · subst hir
      by_cases hjr : j = i
      · exact hjr.symm
      · rw [nu_s] at hn he
        rw [nu_o _ _ hjr] at he
        rcases hy with rfl | rfl
        · exact absurd (h3 _ j sR hj.1 hn he).symm hj.2
        · exact absurd rfl hn
    · rw [nu_o _ _ hir] at hn he
      by_cases hjr : j = r
      · subst hjr
        rw [nu_s] at he
        rcases hy with rfl | rfl
        · exact absurd (h3 i _ hi.1 sR hn he) hi.2
        · exact absurd he hn
      · rw [nu_o _ _ hjr] at he
        exact h3 i j hi.1 hj.1 hn he
theorem Cert.cut {b l : Nat → Nat} {R : Nat → Prop} (h : Cert b l R) (a : Nat) : Cert b (nu l a 0) R := by
  obtain ⟨h1, h2, h3⟩ := h
  refine ⟨h1, fun i hi => ?_, fun i j hi hj hn he => ?_⟩
  · obtain ⟨g1, g2, g3⟩ := h2 i hi
    refine ⟨g1, g2, fun hn => ?_⟩
    by_cases hia : i = a
    · subst hia; rw [nu_s] at hn; exact absurd rfl hn
    · rw [nu_o _ _ hia] at hn ⊢; exact g3 hn
  · by_cases hia : i = a
    · subst hia; rw [nu_s] at hn; exact absurd rfl hn
    · rw [nu_o _ _ hia] at hn he
      by_cases hja : j = a
      · subst hja; rw [nu_s] at he; exact absurd he hn
      · rw [nu_o _ _ hja] at he; exact h3 i j hi hj hn he
theorem Cert.avoid {b l : Nat → Nat} {R : Nat → Prop} (h : Cert b l R) (Z : Nat → Prop) (hZ : ∀ z, Z z → 6 ≤ z) (hc : ∀ i, R i → ¬ Z i → l i ≠ 0 → ¬ Z (l i)) : Cert b l (fun i => R i ∧ ¬ Z i) := by
  obtain ⟨h1, h2, h3⟩ := h
  refine ⟨fun r hr hn => ⟨h1 r hr hn, fun hz => by have := hZ r hz; omega⟩, fun i hi => ?_, fun i j hi hj hn he => h3 i j hi.1 hj.1 hn he⟩
  obtain ⟨g1, g2, g3⟩ := h2 i hi.1
  refine ⟨g1, g2, fun hn => ?_⟩
  obtain ⟨k1, k2, k3⟩ := g3 hn
  exact ⟨k1, ⟨k2, hc i hi.1 hi.2 hn⟩, k3⟩
theorem Inv2.nf {bM lM bD lD : Nat → Nat} {dt : Nat → Bool} {E : Nat → Nat → Bool} (h : Inv2 bM lM bD lD dt E) : ∃ (R : Nat → Prop) (Q : Nat → Nat → Prop), Cert bM lM R ∧ (∀ r i, Q r i → R i) ∧ (∀ r, r < 6 → bM r ≠ 0 → Q r r) ∧ (∀ r i, Q r i → lM i ≠ 0 → Q r (lM i)) ∧
  (∀ r s, r < 6 → Q r s → 6 ≤ s → (dt (pgN s) = true ∧ E (pgN s) (pgN r) = true ∧ dt (pgN r) = true) ∨ Same bM lM bD lD s) ∧ ∀ r i, Q r i → i = r ∨ 6 ≤ i := by
  obtain ⟨R, Q, hR, hQR, hQ1, hQ2, hQ3⟩ := h
  exact ⟨R, fun r i => Q r i ∧ (i = r ∨ 6 ≤ i), hR, fun r i h => hQR r i h.1, fun r hr hn => ⟨hQ1 r hr hn, Or.inl rfl⟩, fun r i h hn => ⟨hQ2 r i h.1 hn, Or.inr ((hR.2.1 i (hQR r i h.1)).2.2 hn).1⟩, fun r s hr h h6 => hQ3 r s hr h.1 h6, fun r i h => h.2⟩
theorem pg_ne {r s : Nat} (hr : r < 6) (hs : 6 ≤ s) (hs2 : s < 15) : pgN r ≠ pgN s := by
  have h1 := pgN_rec hr
  have h2 := pgN_slot hs hs2
  omega
theorem Closed.less {dt dt' : Nat → Bool} {E : Nat → Nat → Bool} {P : Nat → Bool} (h : Closed dt' E P) (hd : ∀ p, dt p = true → dt' p = true) : Closed dt E P := fun p q hq he hp => h p q hq he (hd p hp)
/-- a row that no record reaches changes, on a dirty page -/
theorem Still.up {bM lM bD lD bM' lM' : Nat → Nat} {dt dt' : Nat → Bool} (h : Still bM lM bD lD dt) (hd : ∀ p, dt p = true → dt' p = true) (hr : ∀ i, i < 15 → dt' (pgN i) = false → bM' i = bM i ∧ lM' i = lM i) : Still bM' lM' bD lD dt' := fun i hi hf => by
  obtain ⟨e1, e2⟩ := hr i hi hf
  rw [e1, e2]
  refine h i hi ?_
  cases hx : dt (pgN i) with
  | false => rfl
  | true => rw [hd _ hx] at hf; cases hf
theorem Gd.fill {bM lM bD lD : Nat → Nat} {dt dt' : Nat → Bool} {E : Nat → Nat → Bool} (h : Gd bM lM bD lD dt E) {r T : Nat} (hr : r < 6) (h0 : bM r = 0) (hT : T ≠ 0) (hd : ∀ p, dt p = true → dt' p = true) (hdr : dt' (pgN r) = true) : Gd (nu bM r T) (nu lM r 0) bD lD dt' E := by
  obtain ⟨h1, h2, h3⟩ := h
  obtain ⟨R, Q, hR, hQR, hQ1, hQ2, hQ3, hQ4⟩ := h2.nf
  refine ⟨fun P hP => ?_, ⟨_, fun q i => Q q i ∨ (q = r ∧ i = r), hR.fill hr h0 hT, fun q i hq => ?_, fun q hq hn => ?_, fun q i hq hn => ?_, fun q s hq hs h6 => ?_⟩, h3.up hd (fun i hi hf => ?_)⟩
  · obtain ⟨R', hR'⟩ := h1 P (hP.less hd)
    by_cases hp : P (pgN r) = true
    · rw [mx_nut hp, mx_nut hp]
      exact ⟨_, hR'.fill hr (by rw [mx_t hp]; exact h0) hT⟩
    · rw [mx_nuf hp, mx_nuf hp]; exact ⟨R', hR'⟩
  · rcases hq with hq | ⟨-, rfl⟩
    · exact Or.inl (hQR q i hq)
    · exact Or.inr rfl
  · by_cases hqr : q = r
    · exact Or.inr ⟨hqr, hqr⟩
    · rw [nu_o _ _ hqr] at hn; exact Or.inl (hQ1 q hq hn)
  · by_cases hir : i = r
    · subst hir; rw [nu_s] at hn; exact absurd rfl hn
    · rw [nu_o _ _ hir] at hn ⊢
      rcases hq with hq | ⟨-, e⟩
      · exact Or.inl (hQ2 q i hq hn)
      · exact absurd e hir
  · rcases hs with hs | ⟨-, e⟩
    · rcases hQ3 q s hq hs h6 with ⟨g1, g2, g3⟩ | ⟨g1, g2⟩
      · exact Or.inl ⟨hd _ g1, g2, hd _ g3⟩
      · right; unfold Same; rw [nu_o _ _ (by omega), nu_o _ _ (by omega)]; exact ⟨g1, g2⟩
    · omega
  · have : i ≠ r := fun e => by rw [e, hdr] at hf; cases hf
    rw [nu_o _ _ this, nu_o _ _ this]; exact ⟨rfl, rfl⟩
theorem Gd.empty {bM lM bD lD : Nat → Nat} {dt dt' : Nat → Bool} {E : Nat → Nat → Bool} (h : Gd bM lM bD lD dt E) {r : Nat} (hr : r < 6) (hd : ∀ p, dt p = true → dt' p = true) (hdr : dt' (pgN r) = true) : Gd (nu bM r 0) (nu lM r 0) bD lD dt' E := by
  obtain ⟨h1, h2, h3⟩ := h
  obtain ⟨R, Q, hR, hQR, hQ1, hQ2, hQ3, hQ4⟩ := h2.nf
  refine ⟨fun P hP => ?_, ⟨_, fun q i => Q q i ∧ i ≠ r, hR.empty hr 0, fun q i hq => ⟨hQR q i hq.1, hq.2⟩, fun q hq hn => ?_, fun q i hq hn => ?_, fun q s hq hs h6 => ?_⟩, h3.up hd (fun i hi hf => ?_)⟩
  · obtain ⟨R', hR'⟩ := h1 P (hP.less hd)
    by_cases hp : P (pgN r) = true
    · rw [mx_nut hp, mx_nut hp]
      exact ⟨_, hR'.empty hr 0⟩
    · rw [mx_nuf hp, mx_nuf hp]; exact ⟨R', hR'⟩
  · by_cases hqr : q = r
    · subst hqr; rw [nu_s] at hn; exact absurd rfl hn
    · rw [nu_o _ _ hqr] at hn; exact ⟨hQ1 q hq hn, hqr⟩
  · rw [nu_o _ _ hq.2] at hn ⊢
    refine ⟨hQ2 q i hq.1 hn, ?_⟩
    have := ((hR.2.1 i (hQR q i hq.1)).2.2 hn).1
    omega
  · rcases hQ3 q s hq hs.1 h6 with ⟨g1, g2, g3⟩ | ⟨g1, g2⟩
    · exact Or.inl ⟨hd _ g1, g2, hd _ g3⟩
    · right; unfold Same; rw [nu_o _ _ (by omega), nu_o _ _ (by omega)]; exact ⟨g1, g2⟩
  · have : i ≠ r := fun e => by rw [e, hdr] at hf; cases hf
    rw [nu_o _ _ this, nu_o _ _ this]; exact ⟨rfl, rfl⟩
theorem Gd.new {bM lM bD lD : Nat → Nat} {dt dt' : Nat → Bool} {E : Nat → Nat → Bool} (h : Gd bM lM bD lD dt E) {r s T : Nat} (hr : r < 6) (hs : 6 ≤ s) (hs2 : s < 15) (h0 : bM s = 0) (hn : bM r ≠ 0) (hT : bM r < T) (hE : E (pgN s) (pgN r) = true) (hd : ∀ p, dt p = true → dt' p = true) (hdr : dt' (pgN r) = true) (hds : dt' (pgN s) = true) : Gd (nu (nu bM s (bM r)) r T) (nu (nu lM s (lM r)) r s) bD lD dt' E := by
  obtain ⟨h1, h2, h3⟩ := h
  obtain ⟨R, Q, hR, hQR, hQ1, hQ2, hQ3, hQ4⟩ := h2.nf
  have hns : ¬ R s := fun hRs => (hR.2.1 s hRs).2.1 h0
  refine ⟨fun P hP => ?_, ⟨_, fun q i => Q q i ∨ (q = r ∧ i = s), hR.new hr hs hs2 h0 hn hT, fun q i hq => ?_, fun q hq hn => ?_, fun q i hq hn => ?_, fun q t hq ht h6 => ?_⟩, h3.up hd (fun i hi hf => ?_)⟩
  · obtain ⟨R', hR'⟩ := h1 P (hP.less hd)
    by_cases hp : P (pgN r) = true
    · have hps : P (pgN s) = true := hP _ _ hp hE hds
      rw [mx_nut hp, mx_nut hp, mx_nut hps, mx_nut hps]
      have := hR'.new (T := T) hr hs hs2 (by rw [mx_t hps]; exact h0) (by rw [mx_t hp]; exact hn) (by rw [mx_t hp]; exact hT)
      rw [mx_t hp, mx_t hp] at this
      exact ⟨_, this⟩
    · rw [mx_nuf hp, mx_nuf hp]
      by_cases hps : P (pgN s) = true
      · rw [mx_nut hps, mx_nut hps]
        exact ⟨R', hR'.slot hs (fun hRs => (hR'.2.1 s hRs).2.1 (by rw [mx_t hps]; exact h0)) _ _⟩
      · rw [mx_nuf hps, mx_nuf hps]; exact ⟨R', hR'⟩
  · rcases hq with hq | ⟨-, rfl⟩
    · exact Or.inl (hQR q i hq)
    · exact Or.inr rfl
  · by_cases hqr : q = r
    · subst hqr; exact Or.inl (hQ1 q hq (by assumption))
    · rw [nu_o _ _ hqr, nu_o _ _ (by omega)] at hn; exact Or.inl (hQ1 q hq hn)
  · by_cases hir : i = r
    · subst hir
      rw [nu_s]
      rcases hq with hq | ⟨-, e⟩
      · rcases hQ4 q i hq with e | e
        · exact Or.inr ⟨e.symm, rfl⟩
        · omega
      · omega
    · rw [nu_o _ _ hir] at hn ⊢
      by_cases his : i = s
      · subst his
        rw [nu_s] at hn ⊢
        rcases hq with hq | ⟨e, -⟩
        · exact absurd (hQR q i hq) hns
        · subst e; exact Or.inl (hQ2 q q (hQ1 q hr (by assumption)) hn)
      · rw [nu_o _ _ his] at hn ⊢
        rcases hq with hq | ⟨-, e⟩
        · exact Or.inl (hQ2 q i hq hn)
        · exact absurd e his
  · rcases ht with ht | ⟨e1, e2⟩
    · have hts : t ≠ s := fun e => hns (e ▸ hQR q t ht)
      rcases hQ3 q t hq ht h6 with ⟨g1, g2, g3⟩ | ⟨g1, g2⟩
      · exact Or.inl ⟨hd _ g1, g2, hd _ g3⟩
      · have htr : t ≠ r := by omega
        right; unfold Same; rw [nu_o _ _ htr, nu_o _ _ htr, nu_o _ _ hts, nu_o _ _ hts]; exact ⟨g1, g2⟩
    · subst e1 e2; exact Or.inl ⟨hds, hE, hdr⟩
  · have e1 : i ≠ r := fun e => by rw [e, hdr] at hf; cases hf
    have e2 : i ≠ s := fun e => by rw [e, hds] at hf; cases hf
    rw [nu_o _ _ e1, nu_o _ _ e1, nu_o _ _ e2, nu_o _ _ e2]; exact ⟨rfl, rfl⟩
theorem Gd.move {bM lM bD lD : Nat → Nat} {dt dt' : Nat → Bool} {E : Nat → Nat → Bool} (h : Gd bM lM bD lD dt E) {r s : Nat} (hr : r < 6) (hn : bM r ≠ 0) (hl : lM r = s) (hs0 : s ≠ 0) (hE : E (pgN r) (pgN s) = true) (hd : ∀ p, dt p = true → dt' p = true) (hdr : dt' (pgN r) = true) (hds : dt' (pgN s) = true) : Gd (nu (nu bM r (bM s)) s 0) (nu (nu lM r (lM s)) s 0) bD lD dt' E := by
  obtain ⟨h1, h2, h3⟩ := h
  obtain ⟨R, Q, hR, hQR, hQ1, hQ2, hQ3, hQ4⟩ := h2.nf
  subst hl
  have hRr := hR.1 r hr hn
  obtain ⟨s6, sR, sb⟩ := (hR.2.1 r hRr).2.2 hs0
  have hs15 := (hR.2.1 _ sR).1
  refine ⟨fun P hP => ?_, ⟨_, fun q i => Q q i ∧ i ≠ lM r, (hR.move hr hRr hs0 (Or.inl rfl)).slot s6 (fun h => h.2 rfl) 0 0, fun q i hq => ⟨hQR q i hq.1, hq.2⟩, fun q hq hn => ?_, fun q i hq hn => ?_, fun q t hq ht h6 => ?_⟩, h3.up hd (fun i hi hf => ?_)⟩
  · obtain ⟨R', hR'⟩ := h1 P (hP.less hd)
    by_cases hps : P (pgN (lM r)) = true
    · have hp : P (pgN r) = true := hP _ _ hps hE hdr
      have el : mx P lM lD r = lM r := mx_t hp
      rw [mx_nut hps, mx_nut hps, mx_nut hp, mx_nut hp]
      have := hR'.move hr (hR'.1 r hr (by rw [mx_t hp]; exact hn)) (by rw [el]; exact hs0) (Or.inl rfl)
      rw [el, mx_t hps, mx_t hps] at this
      exact ⟨_, this.slot s6 (fun h => h.2 rfl) 0 0⟩
    · rw [mx_nuf hps, mx_nuf hps]
      by_cases hp : P (pgN r) = true
      · have el : mx P lM lD r = lM r := mx_t hp
        rw [mx_nut hp, mx_nut hp]
        rcases hQ3 r (lM r) hr (hQ2 r r (hQ1 r hr hn) hs0) s6 with ⟨g1, g2, g3⟩ | ⟨g1, g2⟩
        · exact absurd (hP _ _ hp g2 (hd _ g1)) hps
        · have := hR'.move (y := lM (lM r)) hr (hR'.1 r hr (by rw [mx_t hp]; exact hn)) (by rw [el]; exact hs0) (by
            rw [el, mx_f hps]
            rcases g2 with g2 | g2
            · exact Or.inl g2.symm
            · exact Or.inr g2)
          rw [el, mx_f hps, g1] at this
          exact ⟨_, this⟩
      · rw [mx_nuf hp, mx_nuf hp]; exact ⟨R', hR'⟩
  · by_cases hqr : q = r
    · subst hqr; exact ⟨hQ1 q hr (by assumption), by omega⟩
    · rw [nu_o _ _ (by omega), nu_o _ _ hqr] at hn; exact ⟨hQ1 q hq hn, by omega⟩
  · rw [nu_o _ _ hq.2] at hn ⊢
    by_cases hir : i = r
    · subst hir
      rw [nu_s] at hn ⊢
      have hQs := hQ2 q i hq.1 hs0
      refine ⟨hQ2 q _ hQs hn, fun e => ?_⟩
      have := ((hR.2.1 _ sR).2.2 hn).2.2
      rw [e] at this; omega
    · rw [nu_o _ _ hir] at hn ⊢
      exact ⟨hQ2 q i hq.1 hn, fun e => hir (hR.2.2 i r (hQR q i hq.1) hRr hn e)⟩
  · rcases hQ3 q t hq ht.1 h6 with ⟨g1, g2, g3⟩ | ⟨g1, g2⟩
    · exact Or.inl ⟨hd _ g1, g2, hd _ g3⟩
    · right; unfold Same; rw [nu_o _ _ ht.2, nu_o _ _ ht.2, nu_o _ _ (by omega), nu_o _ _ (by omega)]; exact ⟨g1, g2⟩
  · have e1 : i ≠ r := fun e => by rw [e, hdr] at hf; cases hf
    have e2 : i ≠ lM r := fun e => by rw [e, hds] at hf; cases hf
    rw [nu_o _ _ e2, nu_o _ _ e2, nu_o _ _ e1, nu_o _ _ e1]; exact ⟨rfl, rfl⟩
end PG
