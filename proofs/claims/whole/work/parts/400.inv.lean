/-! THE PURE PART, 1: what the careful order keeps. Rows 0..5 are records, 6..14 slots; b: owners (0: none), l: links (0: none, else a slot's row); M in memory, D on the disk -/
section PI
/-- the page of a row -/
def pgN (i : Nat) : Nat := if i < 6 then i / 2 else 3 + (i - 6) / 3
theorem pgN_rec {i : Nat} (h : i < 6) : pgN i < 3 := by unfold pgN; rw [if_pos h]; omega
theorem pgN_slot {i : Nat} (h : 6 ≤ i) (h2 : i < 15) : 3 ≤ pgN i ∧ pgN i < 6 := by unfold pgN; rw [if_neg (by omega)]; omega
theorem pgN_lt {i : Nat} (h2 : i < 15) : pgN i < 6 := by
  by_cases h : i < 6
  · have := pgN_rec h; omega
  · exact (pgN_slot (by omega) h2).2
/-- rows R that are in order: all records that are not empty; what they link to is there, older, and linked to once -/
def Cert (b l : Nat → Nat) (R : Nat → Prop) : Prop :=
  (∀ r, r < 6 → b r ≠ 0 → R r) ∧ (∀ i, R i → i < 15 ∧ b i ≠ 0 ∧ (l i ≠ 0 → 6 ≤ l i ∧ R (l i) ∧ b (l i) < b i)) ∧ (∀ i j, R i → R j → l i ≠ 0 → l i = l j → i = j)
/-- the rows of the pages P out of memory, the others off the disk -/
def mx (P : Nat → Bool) (x y : Nat → Nat) : Nat → Nat := fun i => if P (pgN i) = true then x i else y i
theorem mx_t {P : Nat → Bool} {x y : Nat → Nat} {i : Nat} (h : P (pgN i) = true) : mx P x y i = x i := if_pos h
theorem mx_f {P : Nat → Bool} {x y : Nat → Nat} {i : Nat} (h : ¬ P (pgN i) = true) : mx P x y i = y i := if_neg h
def Closed (dt : Nat → Bool) (E : Nat → Nat → Bool) (P : Nat → Bool) : Prop := ∀ p q, P q = true → E p q = true → dt p = true → P p = true
/-- THE INVARIANT -/
def Fam (bM lM bD lD : Nat → Nat) (dt : Nat → Bool) (E : Nat → Nat → Bool) : Prop := ∀ P, Closed dt E P → ∃ R, Cert (mx P bM bD) (mx P lM lD) R
def Same (bM lM bD lD : Nat → Nat) (i : Nat) : Prop := bD i = bM i ∧ (lD i = lM i ∨ lM i = 0)
/-- the slots in memory's chain of r are written before r's page, or are on the disk already -/
def Inv2 (bM lM bD lD : Nat → Nat) (dt : Nat → Bool) (E : Nat → Nat → Bool) : Prop := ∃ (R : Nat → Prop) (Q : Nat → Nat → Prop), Cert bM lM R ∧ (∀ r i, Q r i → R i) ∧ (∀ r, r < 6 → bM r ≠ 0 → Q r r) ∧ (∀ r i, Q r i → lM i ≠ 0 → Q r (lM i)) ∧
  ∀ r s, r < 6 → Q r s → 6 ≤ s → (dt (pgN s) = true ∧ E (pgN s) (pgN r) = true ∧ dt (pgN r) = true) ∨ Same bM lM bD lD s
def Still (bM lM bD lD : Nat → Nat) (dt : Nat → Bool) : Prop := ∀ i, i < 15 → dt (pgN i) = false → bM i = bD i ∧ lM i = lD i
def Gd (bM lM bD lD : Nat → Nat) (dt : Nat → Bool) (E : Nat → Nat → Bool) : Prop := Fam bM lM bD lD dt E ∧ Inv2 bM lM bD lD dt E ∧ Still bM lM bD lD dt
theorem Cert.congr {b l b' l' : Nat → Nat} {R : Nat → Prop} (h : Cert b l R) (hb : ∀ i, i < 15 → b' i = b i) (hl : ∀ i, i < 15 → l' i = l i) : Cert b' l' R := by
  obtain ⟨h1, h2, h3⟩ := h
  refine ⟨fun r hr hn => h1 r hr (by rw [← hb r (by omega)]; exact hn), fun i hi => ?_, fun i j hi hj hn he => ?_⟩
  · obtain ⟨g1, g2, g3⟩ := h2 i hi
    rw [hb i g1, hl i g1]
    refine ⟨g1, g2, fun hn => ?_⟩
    obtain ⟨k1, k2, k3⟩ := g3 hn
    exact ⟨k1, k2, by rw [hb _ (h2 _ k2).1]; exact k3⟩
  · have gi := (h2 i hi).1
    have gj := (h2 j hj).1
    rw [hl i gi] at hn he
    rw [hl j gj] at he
    exact h3 i j hi hj hn he
theorem Gd.disk {bM lM bD lD : Nat → Nat} {dt : Nat → Bool} {E : Nat → Nat → Bool} (h : Gd bM lM bD lD dt E) : ∃ R, Cert bD lD R := by
  obtain ⟨R, hR⟩ := h.1 (fun _ => false) (fun p q hq => by cases hq)
  exact ⟨R, hR⟩
theorem Gd.mem {bM lM bD lD : Nat → Nat} {dt : Nat → Bool} {E : Nat → Nat → Bool} (h : Gd bM lM bD lD dt E) : ∃ R, Cert bM lM R := by
  obtain ⟨R, Q, hR, -⟩ := h.2.1
  exact ⟨R, hR⟩
/-- a crash -/
theorem Gd.crash {bM lM bD lD : Nat → Nat} {dt dt' : Nat → Bool} {E E' : Nat → Nat → Bool} (h : Gd bM lM bD lD dt E) : Gd bD lD bD lD dt' E' := by
  obtain ⟨R, hR⟩ := h.disk
  refine ⟨fun P _ => ⟨R, ?_⟩, ⟨R, fun _ i => R i, hR, fun _ _ h => h, hR.1, fun r i hi hn => ((hR.2.1 i hi).2.2 hn).2.1, fun r s _ _ _ => Or.inr ⟨rfl, Or.inl rfl⟩⟩, fun _ _ _ => ⟨rfl, rfl⟩⟩
  exact hR.congr (fun i _ => by unfold mx; split <;> rfl) (fun i _ => by unfold mx; split <;> rfl)
/-- a page that waits for no dirty one is written -/
theorem Gd.write {bM lM bD lD : Nat → Nat} {dt : Nat → Bool} {E : Nat → Nat → Bool} (h : Gd bM lM bD lD dt E) (p : Nat) (hp : ∀ q, E q p = true → dt q = false) :
    Gd bM lM (mx (fun q => q == p) bM bD) (mx (fun q => q == p) lM lD) (fun q => dt q && !(q == p)) (fun q r => E q r && !(q == p)) := by
  obtain ⟨h1, ⟨R, Q, hR, hQR, hQ1, hQ2, hQ3⟩, h3⟩ := h
  refine ⟨fun P hP => ?_, ⟨R, Q, hR, hQR, hQ1, hQ2, fun r s hr hs h6 => ?_⟩, fun i hi hd => ?_⟩
  · obtain ⟨R', hR'⟩ := h1 (fun q => P q || q == p) (fun a c hc hE hd => by
      by_cases ha : a = p
      · simp [ha]
      · by_cases hcp : c = p
        · rw [hcp] at hE
          rw [hp a hE] at hd; cases hd
        · have hc' : P c = true := by simpa [hcp] using hc
          have := hP a c hc' (by simp [hE, ha]) (by simp [hd, ha])
          simp [this])
    refine ⟨R', hR'.congr (fun i _ => ?_) (fun i _ => ?_)⟩ <;>
    · unfold mx
      by_cases g1 : P (pgN i) = true <;> by_cases g2 : pgN i = p <;> simp [g1, g2]
  · by_cases hs1 : pgN s = p
    · refine Or.inr ⟨?_, Or.inl ?_⟩
      · rw [mx_t (by simp [hs1])]
      · rw [mx_t (by simp [hs1])]
    · rcases hQ3 r s hr hs h6 with ⟨g1, g2, g3⟩ | ⟨g1, g2⟩
      · by_cases hr1 : pgN r = p
        · rw [← hr1] at hp
          rw [hp _ g2] at g1; cases g1
        · exact Or.inl ⟨by simp [g1, hs1], by simp [g2, hs1], by simp [g3, hr1]⟩
      · refine Or.inr ⟨?_, ?_⟩
        · rw [mx_f (by simp [hs1])]; exact g1
        · rw [mx_f (by simp [hs1])]; exact g2
  · by_cases hs1 : pgN i = p
    · rw [mx_t (by simp [hs1]), mx_t (by simp [hs1])]; exact ⟨rfl, rfl⟩
    · rw [mx_f (by simp [hs1]), mx_f (by simp [hs1])]
      exact h3 i hi (by simpa [hs1] using hd)
/-- a note more -/
theorem Gd.note {bM lM bD lD : Nat → Nat} {dt : Nat → Bool} {E E' : Nat → Nat → Bool} (h : Gd bM lM bD lD dt E) (hE : ∀ p q, E p q = true → E' p q = true) : Gd bM lM bD lD dt E' := by
  obtain ⟨h1, ⟨R, Q, hR, hQR, hQ1, hQ2, hQ3⟩, h3⟩ := h
  refine ⟨fun P hP => h1 P (fun p q hq he hd => hP p q hq (hE p q he) hd), ⟨R, Q, hR, hQR, hQ1, hQ2, fun r s hr hs h6 => ?_⟩, h3⟩
  rcases hQ3 r s hr hs h6 with ⟨g1, g2, g3⟩ | g
  · exact Or.inl ⟨g1, hE _ _ g2, g3⟩
  · exact Or.inr g
/-- a page more that is dirty -/
theorem Gd.dirty {bM lM bD lD : Nat → Nat} {dt dt' : Nat → Bool} {E : Nat → Nat → Bool} (h : Gd bM lM bD lD dt E) (hd : ∀ p, dt p = true → dt' p = true) : Gd bM lM bD lD dt' E := by
  obtain ⟨h1, ⟨R, Q, hR, hQR, hQ1, hQ2, hQ3⟩, h3⟩ := h
  refine ⟨fun P hP => h1 P (fun p q hq he hp => hP p q hq he (hd p hp)), ⟨R, Q, hR, hQR, hQ1, hQ2, fun r s hr hs h6 => ?_⟩, fun i hi hp => h3 i hi ?_⟩
  · rcases hQ3 r s hr hs h6 with ⟨g1, g2, g3⟩ | g
    · exact Or.inl ⟨hd _ g1, g2, hd _ g3⟩
    · exact Or.inr g
  · cases hx : dt (pgN i) with
    | false => rfl
    | true => rw [hd _ hx] at hp; cases hp
end PI
