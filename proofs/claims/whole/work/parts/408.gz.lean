/-! THE PURE PART, 9: the shape while a sweep frees what lies behind a -/
section PZ
def Pend (r a : Nat) (Z : Nat → Prop) (bM lM bD lD : Nat → Nat) (dt : Nat → Bool) (E : Nat → Nat → Bool) : Prop := ∀ P, Closed dt E P → (dt (pgN r) = true → P (pgN r) = true) → (dt (pgN a) = true → P (pgN a) = true) → ∃ R, Cert (mx P bM bD) (mx P lM lD) R ∧ ∀ z, Z z → ¬ R z
def InvZ (Z : Nat → Prop) (bM lM bD lD : Nat → Nat) (dt : Nat → Bool) (E : Nat → Nat → Bool) : Prop := ∃ (R : Nat → Prop) (Q : Nat → Nat → Prop), Cert bM lM R ∧ (∀ r i, Q r i → R i) ∧ (∀ r, r < 6 → bM r ≠ 0 → Q r r) ∧ (∀ r i, Q r i → lM i ≠ 0 → Q r (lM i)) ∧
  (∀ r s, r < 6 → Q r s → 6 ≤ s → (dt (pgN s) = true ∧ E (pgN s) (pgN r) = true ∧ dt (pgN r) = true) ∨ Same bM lM bD lD s) ∧ ∀ z, Z z → ¬ R z
def GZ (r a : Nat) (Z : Nat → Prop) (bM lM bD lD : Nat → Nat) (dt : Nat → Bool) (E : Nat → Nat → Bool) : Prop := Fam bM lM bD lD dt E ∧ InvZ Z bM lM bD lD dt E ∧ Still bM lM bD lD dt ∧ Pend r a Z bM lM bD lD dt E
theorem GZ.gd {r a : Nat} {Z : Nat → Prop} {bM lM bD lD : Nat → Nat} {dt : Nat → Bool} {E : Nat → Nat → Bool} (h : GZ r a Z bM lM bD lD dt E) : Gd bM lM bD lD dt E := by
  obtain ⟨h1, ⟨R, Q, g1, g2, g3, g4, g5, -⟩, h3, -⟩ := h
  exact ⟨h1, ⟨R, Q, g1, g2, g3, g4, g5⟩, h3⟩
theorem GZ.congr {r a : Nat} {Z : Nat → Prop} {bM lM bD lD bM' lM' bD' lD' : Nat → Nat} {dt dt' : Nat → Bool} {E E' : Nat → Nat → Bool} (h : GZ r a Z bM lM bD lD dt E) (h1 : ∀ i, i < 15 → bM' i = bM i) (h2 : ∀ i, i < 15 → lM' i = lM i) (h3 : ∀ i, i < 15 → bD' i = bD i) (h4 : ∀ i, i < 15 → lD' i = lD i) (h5 : ∀ p, dt' p = dt p) (h6 : ∀ p q, E p q = true → E' p q = true) : GZ r a Z bM' lM' bD' lD' dt' E' := by
  have hG := h.gd.congr h1 h2 h3 h4 h5 h6
  have hdt : dt' = dt := funext h5
  subst hdt
  obtain ⟨g1, ⟨R, Q, hR, hQR, hQ1, hQ2, hQ3, hQ4⟩, g3, g4⟩ := h
  have hl : ∀ i, R i → i < 15 := fun i hi => (hR.2.1 i hi).1
  refine ⟨hG.1, ⟨R, Q, hR.congr h1 h2, hQR, fun r hr hn => hQ1 r hr (by rw [← h1 r (by omega)]; exact hn), fun r i hq hn => ?_, fun r s hr hs h6' => ?_, hQ4⟩, hG.2.2, fun P hP p1 p2 => ?_⟩
  · have := hl i (hQR r i hq)
    rw [h2 i this] at hn ⊢
    exact hQ2 r i hq hn
  · have hs15 := hl s (hQR r s hs)
    rcases hQ3 r s hr hs h6' with ⟨g1, g2, g3⟩ | ⟨g1, g2⟩
    · exact Or.inl ⟨g1, h6 _ _ g2, g3⟩
    · refine Or.inr ⟨by rw [h1 s hs15, h3 s hs15]; exact g1, ?_⟩
      rw [h2 s hs15, h4 s hs15]; exact g2
  · obtain ⟨R', hR', hZ⟩ := g4 P (fun p q hq he hd => hP p q hq (h6 p q he) hd) p1 p2
    refine ⟨R', hR'.congr (fun i hi => ?_) (fun i hi => ?_), hZ⟩
    · unfold mx; rw [h1 i hi, h3 i hi]
    · unfold mx; rw [h2 i hi, h4 i hi]
theorem GZ.write {r a : Nat} {Z : Nat → Prop} {bM lM bD lD : Nat → Nat} {dt : Nat → Bool} {E : Nat → Nat → Bool} (h : GZ r a Z bM lM bD lD dt E) (p : Nat) (hp : ∀ q, E q p = true → dt q = false) :
    GZ r a Z bM lM (mx (fun q => q == p) bM bD) (mx (fun q => q == p) lM lD) (fun q => dt q && !(q == p)) (fun q r => E q r && !(q == p)) := by
  have hG := h.gd.write p hp
  obtain ⟨h1, ⟨R, Q, hR, hQR, hQ1, hQ2, hQ3, hQ4⟩, h3, h4⟩ := h
  refine ⟨hG.1, ⟨R, Q, hR, hQR, hQ1, hQ2, fun r s hr hs h6 => ?_, hQ4⟩, hG.2.2, fun P hP p1 p2 => ?_⟩
  · by_cases hs1 : pgN s = p
    · refine Or.inr ⟨?_, Or.inl ?_⟩
      · rw [mx_t (by simp [hs1])]
      · rw [mx_t (by simp [hs1])]
    · rcases hQ3 r s hr hs h6 with ⟨g1, g2, g3⟩ | ⟨g1, g2⟩
      · by_cases hr1 : pgN r = p
        · rw [← hr1] at hp
          rw [hp _ g2] at g1; cases g1
        · exact Or.inl ⟨by simp [g1, hs1], by simp [g2, hs1], by simp [g3, hr1]⟩
      · refine Or.inr ⟨?_, ?_⟩
        · rw [mx_f (by simp [hs1])]; exact g1
        · rw [mx_f (by simp [hs1])]; exact g2
  · obtain ⟨R', hR', hZ'⟩ := h4 (fun q => P q || q == p) (fun a c hc hE hd => by
      by_cases ha : a = p
      · simp [ha]
      · by_cases hcp : c = p
        · rw [hcp] at hE
          rw [hp a hE] at hd; cases hd
        · have hc' : P c = true := by simpa [hcp] using hc
          have := hP a c hc' (by simp [hE, ha]) (by simp [hd, ha])
          simp [this]) (fun hd => by
        by_cases hx : pgN r = p
        · simp [hx]
        · simp [p1 (by simp [hd, hx])]) (fun hd => by
        by_cases hx : pgN a = p
        · simp [hx]
        · simp [p2 (by simp [hd, hx])])
    refine ⟨R', hR'.congr (fun i _ => ?_) (fun i _ => ?_), hZ'⟩ <;>
    · unfold mx
      by_cases g1 : P (pgN i) = true <;> by_cases g2 : pgN i = p <;> simp [g1, g2]
theorem GZ.free {r a z : Nat} {Z : Nat → Prop} {bM lM bD lD : Nat → Nat} {dt dt' : Nat → Bool} {E : Nat → Nat → Bool} (h : GZ r a Z bM lM bD lD dt E) (hz : Z z) (h6 : 6 ≤ z) (e1 : dt (pgN r) = true → E (pgN r) (pgN z) = true) (e2 : dt (pgN a) = true → pgN a = pgN z ∨ E (pgN a) (pgN z) = true) (hd : ∀ p, dt p = true → dt' p = true) (hdz : dt' (pgN z) = true) :
    GZ r a Z (nu bM z 0) (nu lM z 0) bD lD dt' E := by
  obtain ⟨h1, ⟨R, Q, hR, hQR, hQ1, hQ2, hQ3, hQ4⟩, h3, h4⟩ := h
  have hne : ∀ i, R i → i ≠ z := fun i hi e => hQ4 z hz (e ▸ hi)
  refine ⟨fun P hP => ?_, ⟨R, Q, hR.slot h6 (hQ4 z hz) 0 0, hQR, fun q hq hn => hQ1 q hq (by rw [nu_o _ _ (by omega)] at hn; exact hn), fun q i hq hn => ?_, fun q s hq hs hs6 => ?_, hQ4⟩, h3.up hd (fun i hi hf => ?_), fun P hP p1 p2 => ?_⟩
  · by_cases hpz : P (pgN z) = true
    · obtain ⟨R', hR', hZ'⟩ := h4 P (hP.less hd) (fun hx => hP _ _ hpz (e1 hx) (hd _ hx)) (fun hx => by
        rcases e2 hx with e2 | e2
        · rw [e2]; exact hpz
        · exact hP _ _ hpz e2 (hd _ hx))
      rw [mx_nut hpz, mx_nut hpz]
      exact ⟨R', hR'.slot h6 (hZ' z hz) 0 0⟩
    · rw [mx_nuf hpz, mx_nuf hpz]; exact h1 P (hP.less hd)
  · have := hne i (hQR q i hq)
    rw [nu_o _ _ this] at hn ⊢
    exact hQ2 q i hq hn
  · have hsz := hne s (hQR q s hs)
    rcases hQ3 q s hq hs hs6 with ⟨g1, g2, g3⟩ | ⟨g1, g2⟩
    · exact Or.inl ⟨hd _ g1, g2, hd _ g3⟩
    · right; unfold Same; rw [nu_o _ _ hsz, nu_o _ _ hsz]; exact ⟨g1, g2⟩
  · have : i ≠ z := fun e => by rw [e, hdz] at hf; cases hf
    rw [nu_o _ _ this, nu_o _ _ this]; exact ⟨rfl, rfl⟩
  · obtain ⟨R', hR', hZ'⟩ := h4 P (hP.less hd) (fun hx => p1 (hd _ hx)) (fun hx => p2 (hd _ hx))
    by_cases hpz : P (pgN z) = true
    · rw [mx_nut hpz, mx_nut hpz]
      exact ⟨R', hR'.slot h6 (hZ' z hz) 0 0, hZ'⟩
    · rw [mx_nuf hpz, mx_nuf hpz]; exact ⟨R', hR', hZ'⟩
/-- what links lead to from i -/
def Rc (l : Nat → Nat) (i x : Nat) : Prop := ∀ A : Nat → Prop, A i → (∀ y, A y → l y ≠ 0 → A (l y)) → A x
theorem Rc.refl (l : Nat → Nat) (i : Nat) : Rc l i i := fun _ h _ => h
theorem Rc.step {l : Nat → Nat} {i x : Nat} (h : Rc l i x) (hn : l x ≠ 0) : Rc l i (l x) := fun A h0 hs => hs x (h A h0 hs) hn
/-- a row behind a is linked to by a, or by a row behind a -/
theorem Rc.inv {l : Nat → Nat} {a z : Nat} (h : Rc l (l a) z) : z = l a ∨ ∃ y, Rc l (l a) y ∧ l y ≠ 0 ∧ z = l y := h (fun z => z = l a ∨ ∃ y, Rc l (l a) y ∧ l y ≠ 0 ∧ z = l y) (Or.inl rfl) (fun y hy hn => by
  right
  rcases hy with rfl | ⟨x, hx, hxn, rfl⟩
  · exact ⟨_, Rc.refl _ _, hn, rfl⟩
  · exact ⟨_, hx.step hxn, hn, rfl⟩)
theorem Cert.behind {l b0 l0 : Nat → Nat} {R : Nat → Prop} {a : Nat} (h : Cert b0 l0 R) (hn : l a ≠ 0) (hRa : R a) (hZ : ∀ z, Rc l (l a) z → R z) (hl : ∀ y, (y = a ∨ Rc l (l a) y) → l y ≠ 0 → l0 y = l y) : Cert b0 (nu l0 a 0) (fun i => R i ∧ ¬ Rc l (l a) i) := by
  have hlink : ∀ z, Rc l (l a) z → ∃ y, (y = a ∨ Rc l (l a) y) ∧ R y ∧ l0 y = z ∧ z ≠ 0 := fun z hz => by
    rcases hz.inv with rfl | ⟨y, hy, hyn, rfl⟩
    · exact ⟨a, Or.inl rfl, hRa, hl a (Or.inl rfl) hn, hn⟩
    · exact ⟨y, Or.inr hy, hZ y hy, hl y (Or.inr hy) hyn, hyn⟩
  refine (h.cut a).avoid _ (fun z hz => ?_) (fun i hi hni hin hzi => ?_)
  · obtain ⟨y, -, hy, e, hz0⟩ := hlink z hz
    have := ((h.2.1 y hy).2.2 (by rw [e]; exact hz0)).1
    rw [e] at this; exact this
  · by_cases hia : i = a
    · subst hia; rw [nu_s] at hin; exact hin rfl
    · rw [nu_o _ _ hia] at hin hzi
      obtain ⟨y, hy1, hy2, e, hz0⟩ := hlink _ hzi
      have : i = y := h.2.2 i y hi hy2 hin e.symm
      rcases hy1 with hy1 | hy1
      · exact hia (this.trans hy1)
      · exact hni (this ▸ hy1)
theorem GZ.cut {bM lM bD lD : Nat → Nat} {dt dt' : Nat → Bool} {E : Nat → Nat → Bool} (h : Gd bM lM bD lD dt E) {r a : Nat} (hr : r < 6) (hn : bM r ≠ 0) (hra : Rc lM r a) (ha : lM a ≠ 0) (hd : ∀ p, dt p = true → dt' p = true) (hda : dt' (pgN a) = true) : GZ r a (Rc lM (lM a)) bM (nu lM a 0) bD lD dt' E := by
  obtain ⟨h1, h2, h3⟩ := h
  obtain ⟨R, Q, hR, hQR, hQ1, hQ2, hQ3, hQ4⟩ := h2.nf
  have hQr : ∀ x, Rc lM r x → Q r x := fun x hx => hx (Q r) (hQ1 r hr hn) (hQ2 r)
  have hQa := hQr a hra
  have hQz : ∀ z, Rc lM (lM a) z → Q r z := fun z hz => hz (Q r) (hQ2 r a hQa ha) (hQ2 r)
  refine ⟨fun P hP => ?_, ⟨_, fun q i => Q q i ∧ ¬ Rc lM (lM a) i, hR.behind ha (hQR _ _ hQa) (fun z hz => hQR _ _ (hQz z hz)) (fun _ _ _ => rfl), fun q i hq => ⟨hQR q i hq.1, hq.2⟩, fun q hq hqn => ⟨hQ1 q hq hqn, fun hz => ?_⟩, fun q i hq hin => ?_, fun q s hq hs h6 => ?_, fun z hz hh => hh.2 hz⟩, h3.up hd (fun i hi hf => ?_), fun P hP p1 p2 => ?_⟩
  · obtain ⟨R', hR'⟩ := h1 P (hP.less hd)
    by_cases hp : P (pgN a) = true
    · rw [mx_nut hp]; exact ⟨R', hR'.cut a⟩
    · rw [mx_nuf hp]; exact ⟨R', hR'⟩
  · rcases hz.inv with e | ⟨y, hy, hyn, e⟩
    · have := ((hR.2.1 a (hQR _ _ hQa)).2.2 ha).1
      omega
    · have := ((hR.2.1 y (hQR _ _ (hQz y hy))).2.2 hyn).1
      omega
  · by_cases hia : i = a
    · subst hia; rw [nu_s] at hin; exact absurd rfl hin
    · rw [nu_o _ _ hia] at hin ⊢
      refine ⟨hQ2 q i hq.1 hin, fun hz => ?_⟩
      rcases hz.inv with e | ⟨y, hy, hyn, e⟩
      · exact hia (hR.2.2 i a (hQR q i hq.1) (hQR _ _ hQa) hin e)
      · have := hR.2.2 i y (hQR q i hq.1) (hQR _ _ (hQz y hy)) hin e
        exact hq.2 (this ▸ hy)
  · rcases hQ3 q s hq hs.1 h6 with ⟨g1, g2, g3⟩ | ⟨g1, g2⟩
    · exact Or.inl ⟨hd _ g1, g2, hd _ g3⟩
    · right
      unfold Same
      by_cases hsa : s = a
      · subst hsa; rw [nu_s]; exact ⟨g1, Or.inr rfl⟩
      · rw [nu_o _ _ hsa]; exact ⟨g1, g2⟩
  · have : i ≠ a := fun e => by rw [e, hda] at hf; cases hf
    rw [nu_o _ _ this]; exact ⟨rfl, rfl⟩
  · obtain ⟨R', hR'⟩ := h1 P (hP.less hd)
    have hpa := p2 hda
    have hrow : mx P bM bD r = bM r ∧ mx P lM lD r = lM r := by
      by_cases hp : P (pgN r) = true
      · exact ⟨mx_t hp, mx_t hp⟩
      · rw [mx_f hp, mx_f hp]
        have hf : dt (pgN r) = false := by
          cases hx : dt (pgN r) with
          | false => rfl
          | true => exact absurd (p1 (hd _ hx)) hp
        have := h3 r (by omega) hf
        exact ⟨this.1.symm, this.2.symm⟩
    have hlx : ∀ x, Q r x → lM x ≠ 0 → mx P lM lD x = lM x := fun x hx hxn => by
      rcases hQ4 r x hx with rfl | h6
      · exact hrow.2
      · rcases hQ3 r x hr hx h6 with ⟨g1, g2, g3⟩ | ⟨g1, g2⟩
        · exact mx_t (hP _ _ (p1 (hd _ g3)) g2 (hd _ g1))
        · by_cases hp : P (pgN x) = true
          · exact mx_t hp
          · rw [mx_f hp]; exact g2.resolve_right hxn
    have hin : ∀ x, Rc lM r x → R' x ∧ Q r x := fun x hx => hx (fun x => R' x ∧ Q r x) ⟨hR'.1 r hr (by rw [hrow.1]; exact hn), hQ1 r hr hn⟩ (fun y hy hyn => by
      have e := hlx y hy.2 hyn
      refine ⟨?_, hQ2 r y hy.2 hyn⟩
      have := ((hR'.2.1 y hy.1).2.2 (by rw [e]; exact hyn)).2.1
      rw [e] at this; exact this)
    have hZ : ∀ z, Rc lM (lM a) z → Rc lM r z := fun z hz => hz (Rc lM r) (hra.step ha) (fun y hy hyn => hy.step hyn)
    rw [mx_nut hpa]
    exact ⟨_, hR'.behind ha (hin a hra).1 (fun z hz => (hin z (hZ z hz)).1) (fun y hy hyn => hlx y (by
      rcases hy with rfl | hy
      · exact hQa
      · exact hQz y hy) hyn), fun z hz hh => hh.2 hz⟩
end PZ
