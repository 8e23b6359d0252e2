/-! THE PURE PART, 17: sweep, the loops -/
section PO6
theorem behind2 (N : Nat) {S : K_St} {Z : Nat → Prop} {z : Nat} {zs : List Nat} (h : LL S.1 Z (z :: zs)) (cb : Nat → Int64) (ch pl : Nat → Int32) (th cr rf : Int32) : f_Mo_behind N (nI z) (mkV S cb ch pl th cr rf) = some (hd zs, mkV S cb ch pl th cr rf) := by
  obtain ⟨h6, h15, hZ, ho, hl, hL⟩ := h
  have hx := nI_xi h15 (show 15 < 2 ^ 31 by omega)
  unfold f_Mo_behind
  rw [if_pos hx, if_pos hx, if_pos hx, nI_clamp (by omega)]
  show (if cv (S.1.2.2.1 z) < 0 then _ else (if xi (6 + cv (S.1.2.2.1 z)) 15 = true then (if S.1.1 (6 + cv (S.1.2.2.1 z)).toNatClampNeg = 0 then _ else some (6 + cv (S.1.2.2.1 z), _)) else none)) = _
  rw [hl]
  cases zs with
  | nil => dsimp only; rw [cv_m1, if_pos (by decide)]; rfl
  | cons y ys =>
    obtain ⟨y6, y15, yZ, yo, -⟩ := hL
    dsimp only
    rw [cv_n y6 y15, zl6, nI_add, show 6 + (y - 6) = y from by omega, if_neg (nI_pos (by omega)), if_pos (nI_xi y15 (by omega)), nI_clamp (by omega), if_neg yo]; rfl
theorem frees (N : Nat) (hN : 100000000 ≤ N) {r a : Nat} (hr : r < 6) (ha : a < 15) (Z : Nat → Prop) (cb : Nat → Int64) (ch be : Nat → Int32) (M : Nat) (hM : M ≤ 9) : ∀ (zs : List Nat) (t n n2 : Nat) (S : K_St), IS S → GZS r a Z S → LL S.1 Z zs → zs.Nodup → t + zs.length = M → zs.length < n → zs.length < n2 → (∀ j (hj : j < zs.length), be (t + j) = nI zs[j]) →
    ∃ res S', f_Rv_cutBehind_50 N n (nI r) (nI a) (nI M) (nI t) (S, (cb, (ch, be))) = some (res, (S', (cb, (ch, be)))) ∧ IS S' ∧ ((res = nI M ∧ ∀ pl th rf, ∃ pl', f_Mo_sweepOne_87 N n2 (nI r) (nI a) (nI t) (hd zs) (mkV S cb ch pl th 0 rf) = f_Mo_sweepOne_87 N 1 (nI r) (nI a) (nI M) (-1) (mkV S' cb ch pl' th 0 rf)) ∨ (res = -9 ∧ ∀ pl th rf, ∃ pl', f_Mo_sweepOne_87 N n2 (nI r) (nI a) (nI t) (hd zs) (mkV S cb ch pl th 0 rf) = some (0, mkV S' cb ch pl' th 1 rf))) := by
  intro zs
  induction zs with
  | nil =>
    intro t n n2 S hS hG hL hnd ht hn hn2 hbe
    have : t = M := ht
    subst this
    obtain ⟨n, rfl⟩ : ∃ x, n = x + 1 := ⟨n - 1, by omega⟩
    obtain ⟨n2, rfl⟩ : ∃ x, n2 = x + 1 := ⟨n2 - 1, by omega⟩
    refine ⟨nI t, S, ?_, hS, Or.inl ⟨rfl, fun pl th rf => ⟨pl, ?_⟩⟩⟩
    · rw [f_Rv_cutBehind_50, if_pos (nI_le (Nat.le_refl t) (by omega))]
    · rw [f_Mo_sweepOne_87, f_Mo_sweepOne_87, if_pos (show hd [] < 0 from by decide), if_pos (show (-1 : Int32) < 0 from by decide)]
  | cons z zs ih =>
    intro t n n2 S hS hG hL hnd ht hn hn2 hbe
    simp only [List.length_cons] at ht hn hn2
    obtain ⟨n, rfl⟩ : ∃ x, n = x + 1 := ⟨n - 1, by omega⟩
    obtain ⟨n2, rfl⟩ : ∃ x, n2 = x + 1 := ⟨n2 - 1, by omega⟩
    have hb2 := behind2 N (S := S) hL
    have hL0 := hL
    obtain ⟨h6, h15, hZ, ho, hl, hL'⟩ := hL
    obtain ⟨hzn, hnd'⟩ := List.nodup_cons.mp hnd
    have hbt : be t = nI z := hbe 0 (by simp)
    have hpr := pg7 (i := r) (by omega)
    have hpa := pg7 ha
    have hpz := pg7 h15
    have hcl : f_Rv_cutBehind_50 N (n + 1) (nI r) (nI a) (nI M) (nI t) (S, (cb, (ch, be))) = (f_St_note N (nI (pgN r)) (nI (pgN z)) S).bind fun z6 => (if z6.1 = 0 then some ((-9 : Int32), (z6.2, (cb, (ch, be)))) else ((f_St_note N (nI (pgN a)) (nI (pgN z)) z6.2).bind fun z9 => (if z9.1 = 0 then some ((-9 : Int32), (z9.2, (cb, (ch, be)))) else ((f_Co_empty N (nI z) z9.2.1).bind fun z10 => ((f_Rv_pageOf N (nI z) ).bind fun z11 => ((f_St_changed N z11 (z10.2, z9.2.2)).bind fun z12 => f_Rv_cutBehind_50 N n (nI r) (nI a) (nI M) (nI (t + 1)) (z12.2, (cb, (ch, be))))))))) := by
      rw [f_Rv_cutBehind_50, if_neg (nI_ge (by omega) (by omega)), if_pos (nI_xi (by omega) (by omega)), nI_clamp (by omega), nI_1]
      dsimp only
      rw [hbt, pgI (i := r) (by omega), pgI h15]
      simp only [Option.bind_some]
      rw [pgI ha]
      rfl
    have hmo : ∀ pl th rf, f_Mo_sweepOne_87 N (n2 + 1) (nI r) (nI a) (nI t) (hd (z :: zs)) (mkV S cb ch pl th 0 rf) = (f_Mo_note N (nI (pgN r)) (nI (pgN z)) (mkV S cb ch pl th 0 rf)).bind fun z12 => ((f_Mo_note N (nI (pgN a)) (nI (pgN z)) z12.2).bind fun z15 => (if z15.2.2.2.2.2.2.2.2.2.2.2.2.1 = 0 then ((f_Mo_free N (nI z) z15.2).bind fun z16 => f_Mo_sweepOne_87 N n2 (nI r) (nI a) (nI (t + 1)) (hd zs) z16.2) else some ((0 : Int32), z15.2))) := by
      intro pl th rf
      rw [f_Mo_sweepOne_87]
      show (if nI z < 0 then _ else _) = _
      rw [if_neg (nI_pos (by omega)), nI_1]
      dsimp only [hd]
      rw [hb2, pgM (i := r) (by omega), pgM h15]
      simp only [Option.bind_some]
      rw [pgM ha]
      rfl
    obtain ⟨r1, S1, q1, q2, q3⟩ := note_both N hN hS hpr hpz
    rcases q3 with ⟨rfl, qN, qs⟩ | ⟨rfl, qs⟩
    · have hG1 := hG.nt hpr qN hS.2.2.1
      obtain ⟨r2, S2, p1, p2, p3⟩ := note_both N hN q2 hpa hpz
      rcases p3 with ⟨rfl, pN, ps⟩ | ⟨rfl, ps⟩
      · have hG2 := hG1.nt hpa pN q2.2.2.1
        have hm2 : S2.1 = S.1 := pN.mem.trans qN.mem
        have e1 : bz S2.2.2.2.1 (pgN r) = true → bz (S2.2.2.1 (pgN z)) (pgN r) = true := pN.keep hpa hpr hpz (fun _ => qN.edge hpr (pg_ne hr h6 h15))
        have e2 : bz S2.2.2.2.1 (pgN a) = true → pgN a = pgN z ∨ bz (S2.2.2.1 (pgN z)) (pgN a) = true := fun _ => by
          by_cases e : pgN a = pgN z
          · exact Or.inl e
          · exact Or.inr (pN.edge hpa e)
        obtain ⟨hIS, hGZ⟩ := p2.emz hG2 hZ h6 h15 e1 e2
        have hLL : LL (emS z S2).1 Z zs := by
          refine hL'.congr (fun y hy => ?_)
          have hyz : y ≠ z := fun e => hzn (e ▸ hy)
          unfold emS
          dsimp only
          rw [upd_o _ _ hyz, upd_o _ _ hyz, hm2]
          exact ⟨rfl, rfl⟩
        obtain ⟨res, S', g1, g2, g3⟩ := ih (t + 1) n n2 (emS z S2) hIS hGZ hLL hnd' (by omega) (by omega) (by omega) (fun j hj => by
          have := hbe (j + 1) (by simp only [List.length_cons]; omega)
          rw [show t + 1 + j = t + (j + 1) from by omega, this]; rfl)
        have hc2 : f_Rv_cutBehind_50 N (n + 1) (nI r) (nI a) (nI M) (nI t) (S, (cb, (ch, be))) = some (res, (S', (cb, (ch, be)))) := by
          rw [hcl, q1]
          simp only [Option.bind_some]
          rw [if_neg (by decide), p1]
          simp only [Option.bind_some]
          rw [if_neg (by decide), empty_eq N h15]
          simp only [Option.bind_some]
          rw [pgI h15]
          simp only [Option.bind_some]
          rw [chg_eq]
          exact g1
        have hm3 : ∀ pl th rf, ∃ pl', f_Mo_sweepOne_87 N (n2 + 1) (nI r) (nI a) (nI t) (hd (z :: zs)) (mkV S cb ch pl th 0 rf) = f_Mo_sweepOne_87 N n2 (nI r) (nI a) (nI (t + 1)) (hd zs) (mkV (emS z S2) cb ch pl' th 0 rf) := by
          intro pl th rf
          obtain ⟨pl1, qs⟩ := qs cb ch pl th rf
          obtain ⟨pl2, ps⟩ := ps cb ch pl1 th rf
          refine ⟨pl2, ?_⟩
          rw [hmo, qs]
          simp only [Option.bind_some]
          rw [ps]
          simp only [Option.bind_some]
          rw [if_pos (show (mkV S2 cb ch pl2 th 0 rf).2.2.2.2.2.2.2.2.2.2.2.1 = 0 from rfl), mfree_eq N h15]
          rfl
        refine ⟨res, S', hc2, g2, ?_⟩
        rcases g3 with ⟨e, g3⟩ | ⟨e, g3⟩
        · refine Or.inl ⟨e, fun pl th rf => ?_⟩
          obtain ⟨pl1, hm3⟩ := hm3 pl th rf
          rw [hm3]; exact g3 pl1 th rf
        · refine Or.inr ⟨e, fun pl th rf => ?_⟩
          obtain ⟨pl1, hm3⟩ := hm3 pl th rf
          rw [hm3]; exact g3 pl1 th rf
      · refine ⟨-9, S2, ?_, p2, Or.inr ⟨rfl, fun pl th rf => ?_⟩⟩
        · rw [hcl, q1]
          simp only [Option.bind_some]
          rw [if_neg (by decide), p1]
          rfl
        · obtain ⟨pl1, qs⟩ := qs cb ch pl th rf
          obtain ⟨pl2, ps⟩ := ps cb ch pl1 th rf
          refine ⟨pl2, ?_⟩
          rw [hmo, qs]
          simp only [Option.bind_some]
          rw [ps]
          simp only [Option.bind_some]
          rw [if_neg (show ¬ (mkV S2 cb ch pl2 th 1 rf).2.2.2.2.2.2.2.2.2.2.2.1 = 0 from by show ¬ (1 : Int32) = 0; decide)]
    · refine ⟨-9, S1, ?_, q2, Or.inr ⟨rfl, fun pl th rf => ?_⟩⟩
      · rw [hcl, q1]
        rfl
      · obtain ⟨pl1, qs⟩ := qs cb ch pl th rf
        refine ⟨pl1, ?_⟩
        rw [hmo, qs]
        simp only [Option.bind_some]
        rw [mnote_1]
        simp only [Option.bind_some]
        rw [if_neg (show ¬ (mkV S1 cb ch pl1 th 1 rf).2.2.2.2.2.2.2.2.2.2.2.1 = 0 from by show ¬ (1 : Int32) = 0; decide)]
def mcut (N : Nat) (r a : Int32) (V : K_Mo) : Option (Int32 × K_Mo) := ((f_Mo_behind N a V).bind fun z25 => (if xi a 15 = true then (if (z25.2.1.2.2.1 a.toNatClampNeg) < 0 then f_Mo_sweepOne_87 N N r a (0 : Int32) z25.1 z25.2 else (if xi a 15 = true then ((f_Mo_pageOf N a ).bind fun z28 => (if xi z28 7 = true then f_Mo_sweepOne_87 N N r a (0 : Int32) z25.1 ((z25.2.1.1, (z25.2.1.2.1, ((upd z25.2.1.2.2.1 a.toNatClampNeg (-1 : Int32)), z25.2.1.2.2.2))), (z25.2.2.1, ((upd z25.2.2.2.1 z28.toNatClampNeg (vp_nar .boolean (1 : Int32))), z25.2.2.2.2))) else none)) else none)) else none))
theorem sw25 (N : Nat) (hN : 100000000 ≤ N) {S : K_St} {R : Nat → Prop} (h : CR S.1 R) (x1 : Int32) (cb : Nat → Int64) (ch pl : Nat → Int32) (th cr rf : Int32) (g : Nat → Bool) (hg : ∀ i, R i → (decide (S.1.2.2.2 (bF S.1 i) = 2) && aB S.1.2.2.2 cb (bF S.1 i) 40 1) = g i) : ∀ (v i n : Nat), R i → nn S.1 i < v → v < n → f_Mo_sweepOne_25 N n x1 (nI i) (mkV S cb ch pl th cr rf) = (match fs S.1 g v i with | none => some (0, mkV S cb ch pl th cr rf) | some a => mcut N x1 (nI a) (mkV S cb ch pl th cr rf)) := by
  intro v
  induction v with
  | zero => intro i n _ h; omega
  | succ v ih =>
    intro i n hi hv hn
    obtain ⟨n, rfl⟩ : ∃ m, n = m + 1 := ⟨n - 1, by omega⟩
    have h15 := h.lt hi
    rw [f_Mo_sweepOne_25, if_neg (nI_pos (by omega)), settled_eq N hN h hi, hg i hi]
    simp only [Option.bind_some]
    rw [fs]
    by_cases hgi : g i = true
    · rw [if_pos hgi, if_neg (by decide), if_pos (nI_pos' (by omega)), if_pos hgi]; rfl
    · rw [if_neg hgi, if_pos rfl, if_neg hgi, behind_eq N h hi]
      simp only [Option.bind_some]
      unfold nxI
      by_cases hl : lF S.1 i = 0
      · rw [if_pos hl, if_pos hl]
        obtain ⟨n, rfl⟩ : ∃ m, n = m + 1 := ⟨n - 1, by omega⟩
        rw [f_Mo_sweepOne_25, if_pos (show (-1 : Int32) < 0 from by decide), if_neg (show ¬ (0 : Int32) ≤ -1 from by decide)]
      · rw [if_neg hl, if_neg hl]
        have := nn_lt h hi hl
        exact ih _ n ((h.2.2.1 i hi).2.2 hl).2.1 (by omega) (by omega)
theorem fin87 (N : Nat) {S : K_St} (hS : IS S) {r a M : Nat} (hr : r < 6) (ha : a < 15) (cb : Nat → Int64) (ch pl : Nat → Int32) (th rf : Int32) : f_Mo_sweepOne_87 N 1 (nI r) (nI a) (nI M) (-1) (mkV S cb ch pl th 0 rf) = some (nI M, mkV (if a = r ∧ S.1.2.1 r = -1 then emS r S else S) cb ch pl th 0 rf) := by
  have hxa := nI_xi (i := a) (n := 15) ha (by omega)
  rw [f_Mo_sweepOne_87, if_pos (show (-1 : Int32) < 0 from by decide)]
  by_cases e : a = r
  · subst e
    rw [if_pos rfl, if_pos hxa, nI_clamp (by omega), show (mkV S cb ch pl th 0 rf).1.2.1 a = S.1.2.1 a from rfl]
    rcases hS.1.2.1 a (by omega) with hv | hv
    · rw [hv, if_neg (by decide), mfree_eq N (by omega), if_pos ⟨rfl, rfl⟩]; rfl
    · rw [if_pos hv, if_neg (fun h => by rw [h.2] at hv; exact absurd hv (by decide))]
  · rw [if_neg (fun h => e ((nI_eq (by omega) (by omega)).mp h)), if_neg (fun h => e h.1)]
def SwR (N r : Nat) (U : K_Rv) : Prop := ∃ res S' be', f_Rv_sweepRecord N (nI r) U = some (res, (S', (U.2.1, (U.2.2.1, be')))) ∧ IS S' ∧ ((res ≠ -9 ∧ ∀ pl, ∃ pl', f_Mo_sweepOne N (nI r) (mkV U.1 U.2.1 U.2.2.1 pl 0 0 0) = some (res, mkV S' U.2.1 U.2.2.1 pl' 0 0 0)) ∨ (res = -9 ∧ ∀ pl, ∃ pl', f_Mo_sweepOne N (nI r) (mkV U.1 U.2.1 U.2.2.1 pl 0 0 0) = some (0, mkV S' U.2.1 U.2.2.1 pl' 0 1 0)))
theorem nI_m9 {M : Nat} (hM : M ≤ 9) : nI M ≠ -9 := by
  have : ∀ M, M < 10 → nI M ≠ -9 := by decide +kernel
  exact this M (by omega)
set_option maxHeartbeats 4000000 in
theorem sweep_rec (N : Nat) (hN : 100000000 ≤ N) {U : K_Rv} (hU : IR U) {r : Nat} (hr : r < 6) : SwR N r U := by
  obtain ⟨S0, cb, ch, be⟩ := U
  obtain ⟨hS0, hcb, hch⟩ := hU
  have hx := nI_xi (i := r) (n := 15) (by omega) (by omega)
  obtain ⟨res, S, g1, hS, g3⟩ := clean_root N hN hr (U := (S0, (cb, (ch, be)))) hS0
  dsimp only at hS0 hcb hch g3 g1
  rcases g3 with ⟨rfl, g3⟩ | ⟨rfl, g3⟩
  · have hb := hS.1.b (i := r) (by omega)
    obtain ⟨R, hR0⟩ := hS.2.2.2.2.2.2.2.mem
    have hR : CR S.1 R := ⟨hS.1, hR0⟩
    obtain ⟨c, c1, c2⟩ := cfa_eq N hN (S, (cb, (ch, be)))
    dsimp only at c2
    have hf := first_eq N hN hR c hr
    have hg : ∀ i, R i → (decide (S.1.2.2.2 (bF S.1 i) = 2) && aB S.1.2.2.2 cb (bF S.1 i) 40 1) = by64 c (bF S.1 i) := fun i hi => by
      obtain ⟨o, ho, ho2, ho3, ho4⟩ := hR.own hi
      rw [c2 _ (by omega) (by omega)]
    have hcl : f_Rv_sweepRecord N (nI r) (S0, (cb, (ch, be))) = (if eI (fr S.1 (fun i => by64 c (bF S.1 i)) r) = (-1 : Int32) then some ((0 : Int32), (S, (cb, (ch, be)))) else ((f_Rv_cutBehind N (nI r) (eI (fr S.1 (fun i => by64 c (bF S.1 i)) r)) (S, (cb, (ch, be)))).bind fun z4 => (if z4.1 = (-9 : Int32) then some (z4.1, z4.2) else (if eI (fr S.1 (fun i => by64 c (bF S.1 i)) r) = nI r then (if xi (nI r) 15 = true then (if (z4.2.1.1.2.1 (nI r).toNatClampNeg) = (-1 : Int32) then ((f_Co_empty N (nI r) z4.2.1.1).bind fun z6 => ((f_Rv_pageOf N (nI r) ).bind fun z7 => ((f_St_changed N z7 (z6.2, z4.2.1.2)).bind fun z8 => some (z4.1, (z8.2, z4.2.2))))) else some (z4.1, z4.2)) else none) else some (z4.1, z4.2))))) := by
      unfold f_Rv_sweepRecord
      rw [g1]
      simp only [Option.bind_some]
      rw [if_neg (by decide), c1]
      simp only [Option.bind_some]
      rw [hf]
      rfl
    have hmo : ∀ pl pl1, f_Mo_clean N (nI r) (mkV S0 cb ch pl 0 0 0) = some ((), mkV S cb ch pl1 0 0 0) → f_Mo_sweepOne N (nI r) (mkV S0 cb ch pl 0 0 0) = (match fr S.1 (fun i => by64 c (bF S.1 i)) r with | none => some (0, mkV S cb ch pl1 0 0 0) | some a => mcut N (nI r) (nI a) (mkV S cb ch pl1 0 0 0)) := by
      intro pl pl1 g3
      unfold f_Mo_sweepOne
      rw [g3]
      simp only [Option.bind_some]
      rw [if_pos (show (mkV S cb ch pl1 0 0 0).2.2.2.2.2.2.2.2.2.2.2.1 = 0 from rfl), if_pos hx, nI_clamp (by omega), show (mkV S cb ch pl1 0 0 0).1.1 r = nI (bF S.1 r) from hb.1]
      unfold fr
      by_cases h0 : bF S.1 r = 0
      · rw [if_pos (by rw [h0]; rfl), if_pos h0]
      · rw [if_neg (by rw [zn0 (by omega)]; exact h0), if_neg h0]
        have := nn_le S.1 r
        exact sw25 N hN hR (nI r) cb ch pl1 0 0 0 (fun i => by64 c (bF S.1 i)) hg 10 r N (hR0.1 r hr h0) (by omega) (by omega)
    cases hfr : fr S.1 (fun i => by64 c (bF S.1 i)) r with
    | none =>
      rw [hfr] at hcl
      refine ⟨0, S, be, ?_, hS, Or.inl ⟨by decide, fun pl => ?_⟩⟩
      · rw [hcl, if_pos (show eI none = -1 from rfl)]
      · obtain ⟨pl1, g3⟩ := g3 cb ch pl 0 0
        refine ⟨pl1, ?_⟩
        have := hmo pl pl1 g3
        rw [hfr] at this
        exact this
    | some a =>
      rw [hfr] at hcl
      obtain ⟨hRa, hga, hRca, hr0⟩ := fr_in hR _ hr hfr
      have ha := hR.lt hRa
      have hpa := pg7 ha
      have hxa := nI_xi (i := a) (n := 15) ha (by omega)
      obtain ⟨z1, z2, z3, z4, z5, z6⟩ := zch_ok hR (Rc (lF S.1) (lF S.1 a)) 10 a hRa (by have := nn_le S.1 a; omega) (fun _ => Rc.refl _ _) (fun y hy hn => hy.step hn)
      generalize hzs : zch S.1 10 a = zs at z1 z2 z3 z4 z5 z6
      have hlen : zs.length ≤ 9 := by have := nn_le S.1 a; omega
      obtain ⟨be', b1, b2, b3⟩ := chB9 N S.1 (Rc (lF S.1) (lF S.1 a)) (fun _ => rfl) zs 0 N be z1 (by omega) (by omega)
      have hmain : (∃ S1 : K_St, IS S1 ∧ GZS r a (Rc (lF S.1) (lF S.1 a)) S1 ∧ LL S1.1 (Rc (lF S.1) (lF S.1 a)) zs ∧
          f_Rv_cutBehind N (nI r) (nI a) (S, (cb, (ch, be))) = f_Rv_cutBehind_50 N N (nI r) (nI a) (nI zs.length) (nI 0) (S1, (cb, (ch, be'))) ∧ (∀ pl, mcut N (nI r) (nI a) (mkV S cb ch pl 0 0 0) = f_Mo_sweepOne_87 N N (nI r) (nI a) (nI 0) (hd zs) (mkV S1 cb ch pl 0 0 0))) ∨ (zs = [] ∧ f_Rv_cutBehind N (nI r) (nI a) (S, (cb, (ch, be))) = some (nI 0, (S, (cb, (ch, be')))) ∧ (∀ pl, mcut N (nI r) (nI a) (mkV S cb ch pl 0 0 0) = f_Mo_sweepOne_87 N 1 (nI r) (nI a) (nI 0) (-1) (mkV S cb ch pl 0 0 0))) := by
        have hcb0 : f_Rv_cutBehind N (nI r) (nI a) (S, (cb, (ch, be))) = (if (S.1.2.2.1 a) = (-1 : Int32) then f_Rv_cutBehind_50 N N (nI r) (nI a) (nI zs.length) (0 : Int32) (S, (cb, (ch, be'))) else f_Rv_cutBehind_50 N N (nI r) (nI a) (nI zs.length) (0 : Int32) (((S.1.1, (S.1.2.1, ((upd S.1.2.2.1 a (-1 : Int32)), S.1.2.2.2))), (S.2.1, (S.2.2.1, (S.2.2.2.1 ||| pm (pgN a), S.2.2.2.2)))), (cb, (ch, be')))) := by
          unfold f_Rv_cutBehind f_Co_chainBehind
          dsimp only
          rw [next_eq N hR hRa]
          simp only [Option.bind_some]
          rw [z3, ← nI_0, b1]
          simp only [Option.bind_some]
          rw [if_pos hxa, if_pos hxa, nI_clamp (by omega), pgI ha]
          simp only [Option.bind_some]
          rw [chg_eq, show 0 + zs.length = zs.length from by omega]
          rfl
        have hmc0 : ∀ pl, mcut N (nI r) (nI a) (mkV S cb ch pl 0 0 0) = (if cv (S.1.2.2.1 a) < 0 then f_Mo_sweepOne_87 N N (nI r) (nI a) 0 (hd zs) (mkV S cb ch pl 0 0 0) else f_Mo_sweepOne_87 N N (nI r) (nI a) 0 (hd zs) (mkV ((S.1.1, (S.1.2.1, ((upd S.1.2.2.1 a (-1 : Int32)), S.1.2.2.2))), (S.2.1, (S.2.2.1, (S.2.2.2.1 ||| pm (pgN a), S.2.2.2.2)))) cb ch pl 0 0 0)) := by
          intro pl
          unfold mcut
          rw [behind_eq N hR hRa, z3]
          simp only [Option.bind_some]
          rw [if_pos hxa, if_pos hxa, nI_clamp (by omega), pgM ha]
          simp only [Option.bind_some]
          rw [if_pos (nI_xi hpa (by omega)), nI_clamp (by omega), nar1]
          rw [show (mkV S cb ch pl 0 0 0).1.2.2.1 a = cv (S.1.2.2.1 a) from rfl]
          have : mkV ((S.1.1, (S.1.2.1, ((upd S.1.2.2.1 a (-1 : Int32)), S.1.2.2.2))), (S.2.1, (S.2.2.1, (S.2.2.2.1 ||| pm (pgN a), S.2.2.2.2)))) cb ch pl 0 0 0 = (((mkV S cb ch pl 0 0 0).1.1, ((mkV S cb ch pl 0 0 0).1.2.1, ((upd (mkV S cb ch pl 0 0 0).1.2.2.1 a (-1 : Int32)), (mkV S cb ch pl 0 0 0).1.2.2.2))), ((mkV S cb ch pl 0 0 0).2.1, ((upd (mkV S cb ch pl 0 0 0).2.2.1 (pgN a) 1), (mkV S cb ch pl 0 0 0).2.2.2))) := by
            unfold mkV vC pm
            dsimp only
            rw [dA_or _ hpa, cv_upd, cv_m1]
          rw [this]
        rcases hR.row hRa with ⟨e1, e2⟩ | ⟨e1, e2, e3, e4, e5, e6⟩
        · right
          have hz0 : zs = [] := by rw [← hzs, zch, if_pos e2]
          subst hz0
          refine ⟨rfl, ?_, fun pl => ?_⟩
          · rw [hcb0, if_pos e1, show N = (N - 1) + 1 from by omega, f_Rv_cutBehind_50, if_pos (by decide)]; rfl
          · rw [hmc0, if_pos (by rw [e1, cv_m1]; decide), show N = (N - 1) + 1 from by omega, f_Mo_sweepOne_87, f_Mo_sweepOne_87, if_pos (show hd [] < 0 from by decide), if_pos (show (-1 : Int32) < 0 from by decide)]; rfl
        · left
          obtain ⟨⟨o, v, l, st⟩, D, e, d, RR⟩ := S
          have hG : Gd (bF (o, (v, (l, st)))) (lF (o, (v, (l, st)))) (bF D) (lF D) (fun p => bz d p) (fun p q => bz (e q) p) := hS.2.2.2.2.2.2.2
          have hC := GZ.cut hG (dt' := fun p => bz (d ||| pm (pgN a)) p) hr hr0 hRca e2 (fun p hp' => by rw [bz_pm _ hpa]; simp [show bz d p = true from hp']) (by rw [bz_pm _ hpa]; simp)
          have el : lF (o, (v, (upd l a (-1), st))) = nu (lF (o, (v, (l, st)))) a 0 := by rw [lF_upd o v l st, lx_m1]
          refine ⟨((o, (v, (upd l a (-1), st))), (D, (e, (d ||| pm (pgN a), RR)))), IS.rows hS (o := o) (v := v) (l := upd l a (-1)) (d := d ||| pm (pgN a)) hS.1.1 hS.1.2.1 (fun i hi => ?_) (Mk.or hS.2.2.1 (Mk.one hpa)) ?_, ?_, z1.congr (fun z hz => ?_), ?_, fun pl => ?_⟩
          · by_cases e : i = a
            · subst e; rw [upd_s]; exact Or.inl rfl
            · rw [upd_o _ _ e]; exact hS.1.2.2.1 i hi
          · rw [el]; exact hC.gd
          · unfold GZS
            dsimp only
            rw [el]
            exact hC
          · have hza : z ≠ a := fun e => by have := z4 z hz; rw [e] at this; omega
            dsimp only
            rw [upd_o _ _ hza]; exact ⟨rfl, rfl⟩
          · rw [hcb0, if_neg (by rw [e1, zm1 (by omega)]; simp)]; rfl
          · rw [hmc0, if_neg (by rw [e1, cv_n e3 e4]; exact nI_pos (by omega))]; rfl
      have hend : ∀ (S2 : K_St) (m : Nat), m ≤ 9 → IS S2 → f_Rv_cutBehind N (nI r) (nI a) (S, (cb, (ch, be))) = some (nI m, (S2, (cb, (ch, be')))) → (∀ pl, ∃ pl', mcut N (nI r) (nI a) (mkV S cb ch pl 0 0 0) = f_Mo_sweepOne_87 N 1 (nI r) (nI a) (nI m) (-1) (mkV S2 cb ch pl' 0 0 0)) → SwR N r (S0, (cb, (ch, be))) := by
        intro S2 m hm hS2 k1 k2
        refine ⟨nI m, (if a = r ∧ S2.1.2.1 r = -1 then emS r S2 else S2), be', ?_, ?_, Or.inl ⟨nI_m9 hm, fun pl => ?_⟩⟩
        · rw [hcl, if_neg (show ¬ eI (some a) = -1 from by show ¬ nI a = -1; rw [zm1 (by omega)]; simp)]
          rw [show f_Rv_cutBehind N (nI r) (eI (some a)) _ = _ from k1]
          simp only [Option.bind_some]
          rw [if_neg (nI_m9 hm)]
          by_cases e : a = r
          · rw [if_pos (show eI (some a) = nI r from by rw [e]; rfl), if_pos hx, nI_clamp (by omega)]
            by_cases hv : S2.1.2.1 r = -1
            · rw [if_pos hv, if_pos ⟨e, hv⟩, empty_eq N (by omega)]
              simp only [Option.bind_some]
              rw [pgI (by omega)]
              rfl
            · rw [if_neg hv, if_neg (fun h => hv h.2)]
          · rw [if_neg (show ¬ eI (some a) = nI r from fun h => e ((nI_eq (by omega) (by omega)).mp h)), if_neg (fun h => e h.1)]
        · split
          · exact hS2.em hr
          · exact hS2
        · obtain ⟨pl1, g3⟩ := g3 cb ch pl 0 0
          obtain ⟨pl2, k2⟩ := k2 pl1
          refine ⟨pl2, ?_⟩
          have := hmo pl pl1 g3
          rw [hfr] at this
          dsimp only at this ⊢
          rw [this, k2, fin87 N hS2 hr ha]
      rcases hmain with ⟨S1, m1, m2, m3, m4, m5⟩ | ⟨rfl, m4, m5⟩
      · obtain ⟨res, S2, k1, k2, k3⟩ := frees N hN hr ha (Rc (lF S.1) (lF S.1 a)) cb ch be' zs.length hlen zs 0 N N S1 m1 m2 m3 z5 (by omega) (by omega) (by omega) (fun j hj => b3 j hj)
        rcases k3 with ⟨rfl, k3⟩ | ⟨rfl, k3⟩
        · exact hend S2 zs.length hlen k2 (by rw [m4, k1]) (fun pl => by rw [m5]; exact k3 pl 0 0)
        · refine ⟨-9, S2, be', ?_, k2, Or.inr ⟨rfl, fun pl => ?_⟩⟩
          · rw [hcl, if_neg (show ¬ eI (some a) = -1 from by show ¬ nI a = -1; rw [zm1 (by omega)]; simp)]
            rw [show f_Rv_cutBehind N (nI r) (eI (some a)) _ = _ from m4, k1]
            rfl
          · obtain ⟨pl1, g3⟩ := g3 cb ch pl 0 0
            obtain ⟨pl2, k3⟩ := k3 pl1 0 0
            refine ⟨pl2, ?_⟩
            have := hmo pl pl1 g3
            rw [hfr] at this
            dsimp only at this ⊢
            rw [this, m5, k3]
      · exact hend S 0 (by omega) hS m4 (fun pl => ⟨pl, m5 pl⟩)
  · refine ⟨-9, S, be, ?_, hS, Or.inr ⟨rfl, fun pl => ?_⟩⟩
    · unfold f_Rv_sweepRecord
      rw [g1]
      rfl
    · obtain ⟨pl1, g3⟩ := g3 cb ch pl 0 0
      refine ⟨pl1, ?_⟩
      unfold f_Mo_sweepOne
      dsimp only
      rw [g3]
      simp only [Option.bind_some]
      rw [if_neg (show ¬ (mkV S cb ch pl1 0 1 0).2.2.2.2.2.2.2.2.2.2.2.1 = 0 from by show ¬ (1 : Int32) = 0; decide)]
end PO6
