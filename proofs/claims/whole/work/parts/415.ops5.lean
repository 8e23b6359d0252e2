/-! THE PURE PART, 16: sweep -/
section PO5
def aB (st : Nat → Int32) (cb : Nat → Int64) (o : Nat) : Nat → Nat → Bool
  | 0, _ => true
  | j + 1, k => (if st k = 1 then by64 (cb k) o else true) && aB st cb o j (k + 1)
theorem cfa10 (N : Nat) (U : K_Rv) : ∀ (j k n : Nat) (a : Int64), k + j = 41 → j < n → ∃ c, f_Rv_committedForAll_10 N n a (nI k) U = some (c, U) ∧ ∀ o, by64 c o = (by64 a o && aB U.1.1.2.2.2 U.2.1 o j k) := by
  intro j
  induction j with
  | zero =>
    intro k n a hk hn
    obtain ⟨n, rfl⟩ : ∃ m, n = m + 1 := ⟨n - 1, by omega⟩
    refine ⟨a, ?_, fun o => by rw [aB]; simp⟩
    rw [f_Rv_committedForAll_10, if_pos (lt40 (k := k) (by omega) (by omega))]
  | succ j ih =>
    intro k n a hk hn
    obtain ⟨n, rfl⟩ : ∃ m, n = m + 1 := ⟨n - 1, by omega⟩
    have hx := nI_xi (i := k) (n := 41) (by omega) (by omega)
    rw [f_Rv_committedForAll_10, if_neg (nlt40 (k := k) (by omega)), if_pos hx, if_pos hx, nI_clamp (by omega), nI_1]
    by_cases h : U.1.1.2.2.2 k = 1
    · rw [if_pos h]
      obtain ⟨c, g1, g2⟩ := ih (k + 1) n (a &&& U.2.1 k) (by omega) (by omega)
      exact ⟨c, g1, fun o => by rw [g2, by_and, aB, if_pos h, Bool.and_assoc]⟩
    · rw [if_neg h]
      obtain ⟨c, g1, g2⟩ := ih (k + 1) n a (by omega) (by omega)
      exact ⟨c, g1, fun o => by rw [g2, aB, if_neg h]; simp⟩
theorem set19 (N : Nat) {S : K_St} {R : Nat → Prop} (h : CR S.1 R) {i : Nat} (hi : R i) (h2 : S.1.2.2.2 (bF S.1 i) = 2) (cb : Nat → Int64) (ch pl : Nat → Int32) (th cr rf : Int32) : ∀ (j k n : Nat), k + j = 41 → j < n → f_Mo_settled_19 N n (nI i) (nI k) (mkV S cb ch pl th cr rf) = some (if aB S.1.2.2.2 cb (bF S.1 i) j k = true then 1 else 0, mkV S cb ch pl th cr rf) := by
  intro j
  induction j with
  | zero =>
    intro k n hk hn
    obtain ⟨n, rfl⟩ : ∃ m, n = m + 1 := ⟨n - 1, by omega⟩
    rw [f_Mo_settled_19, if_pos (lt40 (k := k) (by omega) (by omega)), aB]; rfl
  | succ j ih =>
    intro k n hk hn
    obtain ⟨n, rfl⟩ : ∃ m, n = m + 1 := ⟨n - 1, by omega⟩
    rw [f_Mo_settled_19, if_neg (nlt40 (k := k) (by omega)), if_pos (nI_xi (by omega) (by omega)), nI_clamp (by omega), nI_1, aB]
    rw [show (mkV S cb ch pl th cr rf).1.2.2.2 k = S.1.2.2.2 k from rfl]
    by_cases h1 : S.1.2.2.2 k = 1
    · have hne : ¬ bF S.1 i = k := fun e => by rw [e, h1] at h2; exact absurd h2 (by decide)
      rw [if_pos h1, if_pos h1, seen_eq N h hi (by omega)]
      simp only [Option.bind_some]
      rw [by_or, by_one (by omega), show decide (bF S.1 i = k) = false from decide_eq_false hne]
      cases hb : by64 (cb k) (bF S.1 i)
      · simp
      · simp only [Bool.true_or, if_true, Bool.true_and]
        rw [if_neg (by decide)]
        exact ih (k + 1) n (by omega) (by omega)
    · rw [if_neg h1, if_neg h1]
      simp only [Bool.true_and]
      exact ih (k + 1) n (by omega) (by omega)
theorem settled_eq (N : Nat) (hN : 100000000 ≤ N) {S : K_St} {R : Nat → Prop} (h : CR S.1 R) {i : Nat} (hi : R i) (cb : Nat → Int64) (ch pl : Nat → Int32) (th cr rf : Int32) : f_Mo_settled N (nI i) (mkV S cb ch pl th cr rf) = some (if (decide (S.1.2.2.2 (bF S.1 i) = 2) && aB S.1.2.2.2 cb (bF S.1 i) 40 1) = true then 1 else 0, mkV S cb ch pl th cr rf) := by
  have h15 := h.lt hi
  obtain ⟨o, ho, ho2, ho3, ho4⟩ := h.own hi
  unfold f_Mo_settled
  rw [if_pos (nI_xi h15 (by omega)), nI_clamp (by omega), show (mkV S cb ch pl th cr rf).1.1 i = nI o from ho, if_pos (nI_xi (by omega) (by omega)), nI_clamp (by omega), ho2]
  rw [show (mkV S cb ch pl th cr rf).1.2.2.2 (bF S.1 i) = S.1.2.2.2 (bF S.1 i) from rfl]
  by_cases h2 : S.1.2.2.2 (bF S.1 i) = 2
  · rw [if_pos h2, zl1, set19 N h hi h2 cb ch pl th cr rf 40 1 N rfl (by omega), show decide (S.1.2.2.2 (bF S.1 i) = 2) = true from decide_eq_true h2, Bool.true_and]
    rfl
  · rw [if_neg h2, show decide (S.1.2.2.2 (bF S.1 i) = 2) = false from decide_eq_false h2]; rfl
theorem cfa_eq (N : Nat) (hN : 100000000 ≤ N) (U : K_Rv) : ∃ c, f_Rv_committedForAll N U = some (c, U) ∧ ∀ o, 1 ≤ o → o ≤ 40 → by64 c o = (decide (U.1.1.2.2.2 o = 2) && aB U.1.1.2.2.2 U.2.1 o 40 1) := by
  obtain ⟨c, g1, g2⟩ := cfa10 N U 40 1 N (sF U.1.1.2.2.2 2 40 1 0) rfl (by omega)
  refine ⟨c, ?_, fun o h1 h2 => ?_⟩
  · unfold f_Rv_committedForAll f_Co_committed
    rw [setIn_eq N hN]
    exact g1
  · rw [g2, sF_bit _ _ _ _ _ _ (by omega), by_0, show decide (1 ≤ o ∧ o < 1 + 40) = true from decide_eq_true (by omega)]
    simp
/-- the rows behind i -/
def zch (C : K_Co) : Nat → Nat → List Nat
  | 0, _ => []
  | v + 1, i => if lF C i = 0 then [] else lF C i :: zch C v (lF C i)
/-- rows in a line, in memory C, all in Z -/
def LL (C : K_Co) (Z : Nat → Prop) : List Nat → Prop
  | [] => True
  | z :: zs => 6 ≤ z ∧ z < 15 ∧ Z z ∧ C.1 z ≠ 0 ∧ C.2.2.1 z = (match zs with | [] => -1 | y :: _ => nI y) ∧ LL C Z zs
def hd (zs : List Nat) : Int32 := match zs with
  | [] => -1
  | y :: _ => nI y
theorem zch_ok {C : K_Co} {R : Nat → Prop} (h : CR C R) (Z : Nat → Prop) : ∀ (v i : Nat), R i → nn C i < v → (lF C i ≠ 0 → Z (lF C i)) → (∀ y, Z y → lF C y ≠ 0 → Z (lF C y)) → LL C Z (zch C v i) ∧ (zch C v i).length ≤ nn C i ∧ nxI C i = hd (zch C v i) ∧ (∀ z ∈ zch C v i, bF C z < bF C i) ∧ (zch C v i).Nodup ∧ C.2.2.1 i = hd (zch C v i) := by
  intro v
  induction v with
  | zero => intro i _ h; omega
  | succ v ih =>
    intro i hi hv hZ hZc
    unfold zch nxI
    rcases h.row hi with ⟨e1, e2⟩ | ⟨e1, e2, e3, e4, e5, e6⟩
    · rw [if_pos e2, if_pos e2]
      exact ⟨trivial, Nat.zero_le _, rfl, fun z hz => absurd hz List.not_mem_nil, List.nodup_nil, e1⟩
    · rw [if_neg e2, if_neg e2]
      have hlt := nn_lt h hi e2
      have hb := ((h.2.2.1 i hi).2.2 e2).2.2
      obtain ⟨k1, k2, k3, k4, k5, k6⟩ := ih (lF C i) e5 (by omega) (fun hn => hZc _ (hZ e2) hn) hZc
      refine ⟨⟨e3, e4, hZ e2, e6, k6, k1⟩, by simp only [List.length_cons]; omega, rfl, fun z hz => ?_, List.nodup_cons.mpr ⟨fun hm => ?_, k5⟩, e1⟩
      · rcases List.mem_cons.mp hz with rfl | hz
        · exact hb
        · have := k4 z hz; omega
      · have := k4 _ hm; omega
theorem LL.get {C : K_Co} {Z : Nat → Prop} : ∀ {zs : List Nat}, LL C Z zs → ∀ z ∈ zs, 6 ≤ z ∧ z < 15 := by
  intro zs
  induction zs with
  | nil => intro _ z hz; exact absurd hz List.not_mem_nil
  | cons y ys ih =>
    intro h z hz
    rcases List.mem_cons.mp hz with rfl | hz
    · exact ⟨h.1, h.2.1⟩
    · exact ih h.2.2.2.2.2 z hz
theorem LL.congr {C C' : K_Co} {Z : Nat → Prop} : ∀ {zs : List Nat}, LL C Z zs → (∀ z ∈ zs, C'.1 z = C.1 z ∧ C'.2.2.1 z = C.2.2.1 z) → LL C' Z zs := by
  intro zs
  induction zs with
  | nil => intro _ _; trivial
  | cons y ys ih =>
    intro h he
    obtain ⟨e1, e2⟩ := he y (List.mem_cons_self ..)
    refine ⟨h.1, h.2.1, h.2.2.1, by rw [e1]; exact h.2.2.2.1, by rw [e2]; exact h.2.2.2.2.1, ih h.2.2.2.2.2 (fun z hz => he z (List.mem_cons_of_mem _ hz))⟩
theorem chB9 (N : Nat) (C : K_Co) (Z : Nat → Prop) (hN : ∀ z, C.1 z = C.1 z) : ∀ (zs : List Nat) (m n : Nat) (be : Nat → Int32), LL C Z zs → m + zs.length ≤ 9 → zs.length < n → ∃ be', f_Co_chainBehind_9 N n (nI m) (hd zs) (C, be) = some (nI (m + zs.length), (C, be')) ∧ (∀ j, j < m → be' j = be j) ∧ ∀ t (ht : t < zs.length), be' (m + t) = nI zs[t] := by
  intro zs
  induction zs with
  | nil =>
    intro m n be _ hm hn
    obtain ⟨n, rfl⟩ : ∃ x, n = x + 1 := ⟨n - 1, by omega⟩
    refine ⟨be, ?_, fun _ _ => rfl, fun t ht => absurd ht (Nat.not_lt_zero _)⟩
    rw [f_Co_chainBehind_9, if_pos (show hd [] = -1 from rfl)]; rfl
  | cons z zs ih =>
    intro m n be hL hm hn
    simp only [List.length_cons] at hm hn
    obtain ⟨n, rfl⟩ : ∃ x, n = x + 1 := ⟨n - 1, by omega⟩
    obtain ⟨h6, h15, hZ, ho, hl, hL'⟩ := hL
    obtain ⟨be', g1, g2, g3⟩ := ih (m + 1) n (upd be m (nI z)) hL' (by omega) (by omega)
    have hnx : f_Co_next N (nI z) C = some (hd zs, C) := by
      unfold f_Co_next
      rw [if_pos (nI_xi h15 (by omega)), nI_clamp (by omega), hl]
      cases zs with
      | nil => rw [if_pos rfl]; rfl
      | cons y ys =>
        obtain ⟨y6, y15, yZ, yo, -⟩ := hL'
        dsimp only
        rw [if_neg (by rw [zm1 (by omega)]; simp), if_pos (nI_xi y15 (by omega)), nI_clamp (by omega), if_neg yo]; rfl
    refine ⟨be', ?_, fun j hj => by rw [g2 j (by omega), upd_o _ _ (by omega)], fun t ht => ?_⟩
    · rw [f_Co_chainBehind_9]
      show (if nI z = -1 then _ else _) = _
      rw [if_neg (by rw [zm1 (by omega)]; simp), if_neg (nle9 (k := m) (by omega)), if_pos (nI_xi (by omega) (by omega)), nI_clamp (by omega), nI_1]
      dsimp only [hd]
      rw [hnx]
      simp only [Option.bind_some]
      rw [g1, List.length_cons, show m + 1 + zs.length = m + (zs.length + 1) from by omega]
    · cases t with
      | zero => rw [Nat.add_zero, g2 m (by omega), upd_s]; rfl
      | succ t =>
        have := g3 t (by simp only [List.length_cons] at ht; omega)
        rw [show m + (t + 1) = m + 1 + t from by omega, this]; rfl
def GZS (r a : Nat) (Z : Nat → Prop) (S : K_St) : Prop := GZ r a Z (bF S.1) (lF S.1) (bF S.2.1) (lF S.2.1) (dtF S) (eF S)
theorem GZS.ws {r a : Nat} {Z : Nat → Prop} {S S' : K_St} (h : GZS r a Z S) (hW : Ws S S') (hM : Mk S.2.2.2.1) : GZS r a Z S' := by
  refine (hW (fun T => Mk T.2.2.2.1 ∧ GZS r a Z T) (fun T p f' hp hf hq hT => ⟨hT.1.not hp, ?_⟩) ⟨hM, h⟩).2
  have := GZ.write hT.2 p (fun q hE => by
      by_cases hq7 : q < 7
      · exact hq q hq7 hE
      · exact hT.1 q (by omega))
  refine this.congr (fun _ _ => rfl) (fun _ _ => rfl) (fun i hi => bF_tk p _ _ i hi) (fun i hi => lF_tk p _ _ i hi) (fun q => ?_) (fun a b hab => ?_)
  · show bz (T.2.2.2.1 &&& _) q = (bz T.2.2.2.1 q && !(q == p))
    rw [bz_not hp]
    by_cases hqp : q = p <;> simp [hqp]
  · show bz (eN p T.2.2.1 b) a = true
    simp only [Bool.and_eq_true, Bool.not_eq_true', beq_eq_false_iff_ne] at hab
    unfold eN
    split
    · rw [bz_not hp]; simp [show bz (T.2.2.1 b) a = true from hab.1, hab.2]
    · exact hab.1
theorem GZS.nt {r a x y : Nat} {Z : Nat → Prop} {S S' : K_St} (h : GZS r a Z S) (hx : x < 7) (hW : Nt x y S S') (hM : Mk S.2.2.2.1) : GZS r a Z S' := by
  obtain ⟨S1, hW, ⟨-, rfl⟩ | ⟨-, rfl⟩⟩ := hW
  · exact h.ws hW hM
  · refine GZ.congr (h.ws hW hM) (fun _ _ => rfl) (fun _ _ => rfl) (fun _ _ => rfl) (fun _ _ => rfl) (fun _ => rfl) (fun p q he => ?_)
    show bz (upd S1.2.2.1 y _ q) p = true
    have he : bz (S1.2.2.1 q) p = true := he
    rw [bz_adE hx, he]; rfl
/-- an edge stays as long as its page is dirty -/
theorem Ws.keep {S S' : K_St} (h : Ws S S') {x y : Nat} (hx : x < 7) (hy : y < 7) (hk : bz S.2.2.2.1 x = true → bz (S.2.2.1 y) x = true) : bz S'.2.2.2.1 x = true → bz (S'.2.2.1 y) x = true := by
  refine h (fun T => bz T.2.2.2.1 x = true → bz (T.2.2.1 y) x = true) (fun T p f' hp hf hq hT hd => ?_) hk
  have hd : bz (T.2.2.2.1 &&& (((1 : Int32) <<< (nI p &&& 31)) ^^^ (-1 : Int32))) x = true := hd
  rw [bz_not hp] at hd
  simp only [Bool.and_eq_true, Bool.not_eq_true', decide_eq_false_iff_not] at hd
  show bz (eN p T.2.2.1 y) x = true
  unfold eN
  rw [if_pos hy, bz_not hp, hT hd.1]; simp [hd.2]
theorem Nt.keep {a b x y : Nat} {S S' : K_St} (h : Nt a b S S') (ha : a < 7) (hx : x < 7) (hy : y < 7) (hk : bz S.2.2.2.1 x = true → bz (S.2.2.1 y) x = true) : bz S'.2.2.2.1 x = true → bz (S'.2.2.1 y) x = true := by
  obtain ⟨S1, hW, ⟨-, rfl⟩ | ⟨-, rfl⟩⟩ := h
  · exact hW.keep hx hy hk
  · intro hd
    have := hW.keep hx hy hk hd
    show bz (upd S1.2.2.1 b _ y) x = true
    rw [bz_adE ha, this]; rfl
theorem IS.emz {S : K_St} (h : IS S) {r a z : Nat} {Z : Nat → Prop} (hG : GZS r a Z S) (hz : Z z) (h6 : 6 ≤ z) (h15 : z < 15) (e1 : bz S.2.2.2.1 (pgN r) = true → bz (S.2.2.1 (pgN z)) (pgN r) = true) (e2 : bz S.2.2.2.1 (pgN a) = true → pgN a = pgN z ∨ bz (S.2.2.1 (pgN z)) (pgN a) = true) : IS (emS z S) ∧ GZS r a Z (emS z S) := by
  obtain ⟨⟨o, v, l, st⟩, D, e, d, R⟩ := S
  have hp := pg7 h15
  have hG' : GZ r a Z (bF (o, (v, (l, st)))) (lF (o, (v, (l, st)))) (bF D) (lF D) (fun p => bz d p) (fun p q => bz (e q) p) := hG
  have hF := hG'.free (dt' := fun p => bz (d ||| pm (pgN z)) p) hz h6 e1 e2 (fun p hp' => by rw [bz_pm _ hp]; simp [show bz d p = true from hp']) (by rw [bz_pm _ hp]; simp)
  have eb : bF (upd o z 0, (upd v z 0, (upd l z (-1), st))) = nu (bF (o, (v, (l, st)))) z 0 := by rw [bF_upd o v l st]; rfl
  have el : lF (upd o z 0, (upd v z 0, (upd l z (-1), st))) = nu (lF (o, (v, (l, st)))) z 0 := by rw [lF_upd o v l st, lx_m1]
  refine ⟨IS.rows h (o := upd o z 0) (v := upd v z 0) (l := upd l z (-1)) (d := d ||| pm (pgN z)) (fun i hi => ?_) (fun i hi => ?_) (fun i hi => ?_) (Mk.or h.2.2.1 (Mk.one hp)) ?_, ?_⟩
  · by_cases e : i = z
    · subst e; rw [upd_s]; exact ⟨0, by omega, rfl⟩
    · rw [upd_o _ _ e]; exact h.1.1 i hi
  · by_cases e : i = z
    · subst e; rw [upd_s]; exact Or.inr (by decide)
    · rw [upd_o _ _ e]; exact h.1.2.1 i hi
  · by_cases e : i = z
    · subst e; rw [upd_s]; exact Or.inl rfl
    · rw [upd_o _ _ e]; exact h.1.2.2.1 i hi
  · rw [eb, el]; exact hF.gd
  · unfold GZS emS
    dsimp only
    rw [eb, el]
    exact hF
theorem mnote_1 (N : Nat) (a b : Int32) (S : K_St) (cb : Nat → Int64) (ch pl : Nat → Int32) (th rf : Int32) : f_Mo_note N a b (mkV S cb ch pl th 1 rf) = some ((), mkV S cb ch pl th 1 rf) := by
  unfold f_Mo_note
  rw [if_neg (show ¬ (mkV S cb ch pl th 1 rf).2.2.2.2.2.2.2.2.2.2.2.1 = 0 from by show ¬ (1 : Int32) = 0; decide)]
end PO5
