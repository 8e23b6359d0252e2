/-! THE PURE PART, 14: clean and change -/
section PO3
def lx (x : Int32) : Nat := if x = -1 then 0 else x.toNatClampNeg
theorem lx_m1 : lx (-1) = 0 := if_pos rfl
theorem lx_n {k : Nat} (h : k < 2 ^ 31) : lx (nI k) = k := by unfold lx; rw [if_neg (by rw [zm1 h]; simp), nI_clamp h]
theorem bF_upd (o v l st : Nat → Int32) (v' l' st' : Nat → Int32) (r : Nat) (x : Int32) : bF (upd o r x, (v', (l', st'))) = nu (bF (o, (v, (l, st)))) r x.toNatClampNeg := by
  funext i; unfold bF nu upd; dsimp only; split <;> rfl
theorem lF_upd (o v l st : Nat → Int32) (o' v' st' : Nat → Int32) (r : Nat) (x : Int32) : lF (o', (v', (upd l r x, st'))) = nu (lF (o, (v, (l, st)))) r (lx x) := by
  funext i; unfold lF nu upd lx; dsimp only; split <;> rfl
theorem or_rc (d a b : Int32) : d ||| a ||| b = d ||| b ||| a := by rw [Int32.or_assoc, Int32.or_comm a, ← Int32.or_assoc]
def pm (p : Nat) : Int32 := (1 : Int32) <<< (nI p &&& 31)
theorem bz_pm (d : Int32) {p : Nat} (hp : p < 7) (q : Nat) : bz (d ||| pm p) q = (bz d q || decide (q = p)) := by unfold pm; rw [bz_or, bz_one hp]
theorem IS.rows {S : K_St} (h : IS S) {o v l : Nat → Int32} {d : Int32} (h1 : ∀ i, i < 15 → ∃ k, k ≤ 40 ∧ o i = nI k) (h2 : ∀ i, i < 15 → v i = -1 ∨ 0 ≤ v i) (h3 : ∀ i, i < 15 → l i = -1 ∨ ∃ k, 6 ≤ k ∧ k < 15 ∧ l i = nI k) (h4 : Mk d) (h5 : Gd (bF (o, (v, (l, S.1.2.2.2)))) (lF (o, (v, (l, S.1.2.2.2)))) (bF S.2.1) (lF S.2.1) (fun p => bz d p) (eF S)) : IS ((o, (v, (l, S.1.2.2.2))), (S.2.1, (S.2.2.1, (d, S.2.2.2.2)))) := by
  obtain ⟨⟨a1, a2, a3, a4, a5⟩, g2, g3, g4, g5, g6, g7, g8⟩ := h
  exact ⟨⟨h1, h2, h3, a4, a5⟩, g2, h4, g4, g5, g6, g7, h5⟩
theorem fill_eq (N : Nat) {i : Nat} (hi : i < 15) (a b c : Int32) (C : K_Co) : f_Co_fill N (nI i) a b c C = some ((), (upd C.1 i a, (upd C.2.1 i b, (upd C.2.2.1 i c, C.2.2.2)))) := by
  have hx := nI_xi (i := i) (n := 15) hi (by omega)
  unfold f_Co_fill
  rw [if_pos hx, if_pos hx, if_pos hx, nI_clamp (by omega)]
theorem empty_eq (N : Nat) {i : Nat} (hi : i < 15) (C : K_Co) : f_Co_empty N (nI i) C = some ((), (upd C.1 i 0, (upd C.2.1 i 0, (upd C.2.2.1 i (-1), C.2.2.2)))) := by
  unfold f_Co_empty
  rw [fill_eq N hi]; rfl
theorem move_eq (N : Nat) {i j : Nat} (hi : i < 15) (hj : j < 15) (C : K_Co) : f_Co_move N (nI i) (nI j) C = some ((), (upd C.1 j (C.1 i), (upd C.2.1 j (C.2.1 i), (upd C.2.2.1 j (C.2.2.1 i), C.2.2.2)))) := by
  have hx := nI_xi (i := i) (n := 15) hi (by omega)
  unfold f_Co_move
  rw [if_pos hx, if_pos hx, if_pos hx, fill_eq N hj, nI_clamp (by omega)]; rfl
theorem chg_eq (N : Nat) (p : Nat) (S : K_St) : f_St_changed N (nI p) S = some ((), (S.1, (S.2.1, (S.2.2.1, (S.2.2.2.1 ||| pm p, S.2.2.2.2))))) := rfl
/-- the reference: a row emptied, a row moved -/
def emS (i : Nat) (S : K_St) : K_St := ((upd S.1.1 i 0, (upd S.1.2.1 i 0, (upd S.1.2.2.1 i (-1), S.1.2.2.2))), (S.2.1, (S.2.2.1, (S.2.2.2.1 ||| pm (pgN i), S.2.2.2.2))))
def moS (i j : Nat) (S : K_St) : K_St := ((upd S.1.1 j (S.1.1 i), (upd S.1.2.1 j (S.1.2.1 i), (upd S.1.2.2.1 j (S.1.2.2.1 i), S.1.2.2.2))), (S.2.1, (S.2.2.1, (S.2.2.2.1 ||| pm (pgN j), S.2.2.2.2))))
theorem pg7 {i : Nat} (hi : i < 15) : pgN i < 7 := by have := pgN_lt hi; omega
theorem mfree_eq (N : Nat) {i : Nat} (hi : i < 15) (S : K_St) (cb : Nat → Int64) (ch pl : Nat → Int32) (th cr rf : Int32) : f_Mo_free N (nI i) (mkV S cb ch pl th cr rf) = some ((), mkV (emS i S) cb ch pl th cr rf) := by
  have hx := nI_xi (i := i) (n := 15) hi (by omega)
  have hp := pg7 hi
  unfold f_Mo_free
  rw [if_pos hx, if_pos hx, if_pos hx, pgM hi]
  simp only [Option.bind_some]
  rw [if_pos (nI_xi hp (by omega)), nI_clamp (by omega), nI_clamp (by omega), nar1]
  unfold mkV vC emS
  dsimp only
  rw [dA_or _ hp, cv_upd, cv_m1]
  rfl
theorem mmove_eq (N : Nat) {i j : Nat} (hi : i < 15) (hj : j < 15) (S : K_St) (cb : Nat → Int64) (ch pl : Nat → Int32) (th cr rf : Int32) : f_Mo_move N (nI i) (nI j) (mkV S cb ch pl th cr rf) = some ((), mkV (moS i j S) cb ch pl th cr rf) := by
  have hx := nI_xi (i := i) (n := 15) hi (by omega)
  have hy := nI_xi (i := j) (n := 15) hj (by omega)
  have hp := pg7 hj
  unfold f_Mo_move
  rw [if_pos hx, if_pos hy, if_pos hx, if_pos hy, if_pos hx, if_pos hy, pgM hj]
  simp only [Option.bind_some]
  rw [if_pos (nI_xi hp (by omega)), nI_clamp (by omega), nI_clamp (by omega), nI_clamp (by omega), nar1]
  unfold mkV vC moS
  dsimp only
  rw [dA_or _ hp, cv_upd]
  rfl
/-- free slots -/
def fc (C : K_Co) : Nat := cn (fun k => bF C (6 + k)) 1 9
theorem cn_pt (σ τ : Nat → Nat) {v p : Nat} (h : ∀ k, σ k < v → τ k < v) (h1 : ¬ σ p < v) (h2 : τ p < v) : ∀ n, p < n → cn σ v n < cn τ v n := by
  have le : ∀ n, cn σ v n ≤ cn τ v n := by
    intro n
    induction n with
    | zero => exact Nat.le_refl _
    | succ n ih =>
      unfold cn
      by_cases hs : σ n < v
      · rw [if_pos hs, if_pos (h n hs)]; omega
      · rw [if_neg hs]; split <;> omega
  intro n
  induction n with
  | zero => intro h; omega
  | succ n ih =>
    intro hn
    unfold cn
    by_cases hp : p = n
    · subst hp
      rw [if_neg h1, if_pos h2]
      have := le p
      omega
    · have := ih (by omega)
      by_cases hs : σ n < v
      · rw [if_pos hs, if_pos (h n hs)]; omega
      · rw [if_neg hs]; split <;> omega
theorem Nt.mem {a b : Nat} {S S' : K_St} (h : Nt a b S S') : S'.1 = S.1 := by
  obtain ⟨S1, hW, ⟨-, rfl⟩ | ⟨-, rfl⟩⟩ := h
  · exact hW.mem
  · exact hW.mem
theorem Nt.edge {a b : Nat} {S S' : K_St} (h : Nt a b S S') (ha : a < 7) (hab : a ≠ b) : eF S' a b = true := by
  obtain ⟨S1, hW, ⟨e, -⟩ | ⟨-, rfl⟩⟩ := h
  · exact absurd e hab
  · show bz (upd S1.2.2.1 b _ b) a = true
    rw [bz_adE ha]; simp
theorem IS.em {S : K_St} (h : IS S) {r : Nat} (hr : r < 6) : IS (emS r S) := by
  obtain ⟨⟨o, v, l, st⟩, D, e, d, R⟩ := S
  have hp := pg7 (i := r) (by omega)
  have hG : Gd (bF (o, (v, (l, st)))) (lF (o, (v, (l, st)))) (bF D) (lF D) _ _ := h.2.2.2.2.2.2.2
  refine IS.rows h (o := upd o r 0) (v := upd v r 0) (l := upd l r (-1)) (d := d ||| pm (pgN r)) (fun i hi => ?_) (fun i hi => ?_) (fun i hi => ?_) (Mk.or h.2.2.1 (Mk.one hp)) ?_
  · by_cases e : i = r
    · subst e; rw [upd_s]; exact ⟨0, by omega, rfl⟩
    · rw [upd_o _ _ e]; exact h.1.1 i hi
  · by_cases e : i = r
    · subst e; rw [upd_s]; exact Or.inr (by decide)
    · rw [upd_o _ _ e]; exact h.1.2.1 i hi
  · by_cases e : i = r
    · subst e; rw [upd_s]; exact Or.inl rfl
    · rw [upd_o _ _ e]; exact h.1.2.2.1 i hi
  · rw [bF_upd o v l st, lF_upd o v l st, lx_m1]
    exact hG.empty hr (fun p hp' => by rw [bz_pm _ hp]; simp [show bz d p = true from hp']) (by rw [bz_pm _ hp]; simp)
theorem IS.mv {S : K_St} (h : IS S) {r s : Nat} (hr : r < 6) (hs : s < 15) (hn : bF S.1 r ≠ 0) (hl : lF S.1 r = s) (hs0 : s ≠ 0) (hE : eF S (pgN r) (pgN s) = true) : IS (emS s (moS s r S)) := by
  obtain ⟨⟨o, v, l, st⟩, D, e, d, R⟩ := S
  have hp := pg7 (i := r) (by omega)
  have hq := pg7 hs
  have hG : Gd (bF (o, (v, (l, st)))) (lF (o, (v, (l, st)))) (bF D) (lF D) _ _ := h.2.2.2.2.2.2.2
  refine IS.rows h (o := upd (upd o r (o s)) s 0) (v := upd (upd v r (v s)) s 0) (l := upd (upd l r (l s)) s (-1)) (d := d ||| pm (pgN r) ||| pm (pgN s)) (fun i hi => ?_) (fun i hi => ?_) (fun i hi => ?_) (Mk.or (Mk.or h.2.2.1 (Mk.one hp)) (Mk.one hq)) ?_
  · by_cases e : i = s
    · subst e; rw [upd_s]; exact ⟨0, by omega, rfl⟩
    · rw [upd_o _ _ e]
      by_cases e : i = r
      · subst e; rw [upd_s]; exact h.1.1 s hs
      · rw [upd_o _ _ e]; exact h.1.1 i hi
  · by_cases e : i = s
    · subst e; rw [upd_s]; exact Or.inr (by decide)
    · rw [upd_o _ _ e]
      by_cases e : i = r
      · subst e; rw [upd_s]; exact h.1.2.1 s hs
      · rw [upd_o _ _ e]; exact h.1.2.1 i hi
  · by_cases e : i = s
    · subst e; rw [upd_s]; exact Or.inl rfl
    · rw [upd_o _ _ e]
      by_cases e : i = r
      · subst e; rw [upd_s]; exact h.1.2.2.1 s hs
      · rw [upd_o _ _ e]; exact h.1.2.2.1 i hi
  · rw [bF_upd (upd o r (o s)) v l st, bF_upd o v l st, lF_upd o v (upd l r (l s)) st, lF_upd o v l st, lx_m1]
    exact hG.move hr hn hl hs0 hE (fun p hp' => by rw [bz_pm _ hq, bz_pm _ hp]; simp [show bz d p = true from hp']) (by rw [bz_pm _ hq, bz_pm _ hp]; simp) (by rw [bz_pm _ hq]; simp)
theorem fc_em (C : K_Co) {s : Nat} (hs : 6 ≤ s) (hs2 : s < 15) (hn : bF C s ≠ 0) {C' : K_Co} (h : ∀ i, 6 ≤ i → bF C' i = nu (bF C) s 0 i) : fc C < fc C' := by
  unfold fc
  have e : 6 + (s - 6) = s := by omega
  refine cn_pt _ _ (p := s - 6) (fun k hk => ?_) ?_ ?_ 9 (by omega)
  · rw [h _ (by omega)]
    unfold nu; split <;> omega
  · rw [e]; omega
  · rw [h _ (by omega), e, nu_s]; omega
theorem rolled_eq (N : Nat) {C : K_Co} (h : Bd C) {r : Nat} (hr : r < 15) : f_Co_isRolled N (nI r) C = some (if bF C r ≠ 0 ∧ C.2.2.2 (bF C r) = 3 then 1 else 0, C) := by
  have hx := nI_xi (i := r) (n := 15) hr (by omega)
  have hb := h.b hr
  unfold f_Co_isRolled
  rw [if_pos hx, if_pos hx, nI_clamp (by omega), hb.1]
  simp only [zn0 (show bF C r < 2 ^ 31 by omega)]
  by_cases h0 : bF C r = 0
  · rw [if_pos h0, if_neg (fun h => h.1 h0)]
  · rw [if_neg h0, if_pos (nI_xi (by omega) (by omega)), nI_clamp (by omega)]
    by_cases h3 : C.2.2.2 (bF C r) = 3
    · rw [if_pos h3, if_pos ⟨h0, h3⟩]
    · rw [if_neg h3, if_neg (fun h => h3 h.2)]
theorem mclean_s (N : Nat) {S : K_St} (h : IS S) {r : Nat} (hr : r < 6) (n : Nat) (cb : Nat → Int64) (ch pl : Nat → Int32) (th rf : Int32) (h0 : ¬ (bF S.1 r ≠ 0 ∧ S.1.2.2.2 (bF S.1 r) = 3)) : f_Mo_clean_0 N (n + 1) (nI r) (mkV S cb ch pl th 0 rf) = some ((), mkV S cb ch pl th 0 rf) := by
  have hx := nI_xi (i := r) (n := 15) (by omega) (by omega)
  have hb := h.1.b (i := r) (by omega)
  rw [f_Mo_clean_0, if_pos (show (mkV S cb ch pl th 0 rf).2.2.2.2.2.2.2.2.2.2.2.1 = 0 from rfl), if_pos hx, if_pos hx, nI_clamp (by omega)]
  rw [show (mkV S cb ch pl th 0 rf).1.1 r = nI (bF S.1 r) from hb.1]
  by_cases hz : bF S.1 r = 0
  · rw [if_pos (by rw [hz]; rfl)]
  · rw [if_neg (by rw [zn0 (by omega)]; exact hz), if_pos (nI_xi (by omega) (by omega)), nI_clamp (by omega), if_neg (show ¬ (mkV S cb ch pl th 0 rf).1.2.2.2 (bF S.1 r) = 3 from fun h => h0 ⟨hz, h⟩)]
theorem clean_both (N : Nat) (hN : 100000000 ≤ N) {r : Nat} (hr : r < 6) (W : (Nat → Int64) × (Nat → Int32) × (Nat → Int32)) : ∀ (w k n m : Nat) (S : K_St), IS S → 9 ≤ fc S.1 + w → k + w + 2 ≤ 15 → w + 3 ≤ n → w + 3 ≤ m → ∃ res S', f_Rv_clean_2 N n (nI r) (nI k) (S, W) = some (res, (S', W)) ∧ IS S' ∧ ((res = 1 ∧ ∀ cb ch pl th rf, ∃ pl', f_Mo_clean_0 N m (nI r) (mkV S cb ch pl th 0 rf) = some ((), mkV S' cb ch pl' th 0 rf)) ∨ (res = 0 ∧ ∀ cb ch pl th rf, ∃ pl', f_Mo_clean_0 N m (nI r) (mkV S cb ch pl th 0 rf) = some ((), mkV S' cb ch pl' th 1 rf))) := by
  intro w
  induction w using Nat.strongRecOn with
  | ind w ih =>
    intro k n m S hS hfc hk hn hm
    obtain ⟨n, rfl⟩ : ∃ x, n = x + 1 := ⟨n - 1, by omega⟩
    obtain ⟨m, rfl⟩ : ∃ x, m = x + 1 := ⟨m - 1, by omega⟩
    have hx := nI_xi (i := r) (n := 15) (by omega) (by omega)
    have hb := hS.1.b (i := r) (by omega)
    obtain ⟨R, hR0⟩ := hS.2.2.2.2.2.2.2.mem
    have hR : CR S.1 R := ⟨hS.1, hR0⟩
    by_cases h0 : bF S.1 r ≠ 0 ∧ S.1.2.2.2 (bF S.1 r) = 3
    · have hRr := hR0.1 r hr h0.1
      have hmc : ∀ cb ch pl th rf, f_Mo_clean_0 N (m + 1) (nI r) (mkV S cb ch pl th 0 rf) = ((f_Mo_behind N (nI r) (mkV S cb ch pl th 0 rf)).bind fun z4 => (if 0 ≤ z4.1 then ((f_Mo_pageOf N (nI r) ).bind fun z5 => ((f_Mo_pageOf N z4.1 ).bind fun z6 => ((f_Mo_note N z5 z6 z4.2).bind fun z7 => (if z7.2.2.2.2.2.2.2.2.2.2.2.2.1 = 0 then ((f_Mo_move N z4.1 (nI r) z7.2).bind fun z8 => ((f_Mo_free N z4.1 z8.2).bind fun z9 => f_Mo_clean_0 N m (nI r) z9.2)) else some ((), z7.2))))) else ((f_Mo_free N (nI r) z4.2).bind fun z11 => f_Mo_clean_0 N m (nI r) z11.2))) := by
        intro cb ch pl th rf
        rw [f_Mo_clean_0, if_pos (show (mkV S cb ch pl th 0 rf).2.2.2.2.2.2.2.2.2.2.2.1 = 0 from rfl), if_pos hx, if_pos hx, nI_clamp (by omega)]
        rw [show (mkV S cb ch pl th 0 rf).1.1 r = nI (bF S.1 r) from hb.1]
        rw [if_neg (by rw [zn0 (by omega)]; exact h0.1), if_pos (nI_xi (by omega) (by omega)), nI_clamp (by omega), if_pos (show (mkV S cb ch pl th 0 rf).1.2.2.2 (bF S.1 r) = 3 from h0.2)]
      rcases hR.row hRr with ⟨e1, e2⟩ | ⟨e1, e2, e3, e4, e5, e6⟩
      · have hIS := hS.em hr
        have hz : ¬ (bF (emS r S).1 r ≠ 0 ∧ (emS r S).1.2.2.2 (bF (emS r S).1 r) = 3) := by
          intro h
          apply h.1
          unfold bF emS
          dsimp only
          rw [upd_s]; rfl
        refine ⟨1, emS r S, ?_, hIS, Or.inl ⟨rfl, fun cb ch pl th rf => ⟨pl, ?_⟩⟩⟩
        · rw [f_Rv_clean_2, if_neg (nle15 (k := k) (by omega))]
          dsimp only
          rw [rolled_eq N hS.1 (by omega), if_pos h0]
          simp only [Option.bind_some]
          rw [if_neg (by decide), if_pos hx, nI_clamp (by omega), if_pos e1, empty_eq N (by omega)]
          simp only [Option.bind_some]
          rw [pgI (by omega)]
          simp only [Option.bind_some]
          rw [chg_eq]
          simp only [Option.bind_some]
          rw [nI_1]
          obtain ⟨n, rfl⟩ : ∃ x, n = x + 1 := ⟨n - 1, by omega⟩
          rw [f_Rv_clean_2, if_neg (nle15 (k := k + 1) (by omega))]
          have this : f_Co_isRolled N (nI r) (upd S.1.1 r 0, (upd S.1.2.1 r 0, (upd S.1.2.2.1 r (-1), S.1.2.2.2))) = some (0, (upd S.1.1 r 0, (upd S.1.2.1 r 0, (upd S.1.2.2.1 r (-1), S.1.2.2.2)))) := by
            have := rolled_eq N hIS.1 (r := r) (by omega)
            rw [if_neg hz] at this
            exact this
          dsimp only
          rw [this]
          rfl
        · rw [hmc, behind_eq N hR hRr]
          simp only [Option.bind_some]
          rw [show nxI S.1 r = -1 from if_pos e2, if_neg (by decide), mfree_eq N (by omega)]
          simp only [Option.bind_some]
          obtain ⟨m, rfl⟩ : ∃ x, m = x + 1 := ⟨m - 1, by omega⟩
          exact mclean_s N hIS hr m cb ch pl th rf hz
      · have hpr := pg7 (i := r) (by omega)
        have hps := pg7 e4
        have hne := pg_ne hr e3 e4
        obtain ⟨r1, S1, q1, q2, q3⟩ := note_both N hN hS hpr hps
        have hcl : f_Rv_clean_2 N (n + 1) (nI r) (nI k) (S, W) = (f_St_note N (nI (pgN r)) (nI (pgN (lF S.1 r))) S).bind fun z5 => (if z5.1 = 0 then some ((0 : Int32), (z5.2, W)) else ((f_Co_move N (nI (lF S.1 r)) (nI r) z5.2.1).bind fun z6 => ((f_Co_empty N (nI (lF S.1 r)) z6.2).bind fun z7 => ((f_Rv_pageOf N (nI (lF S.1 r)) ).bind fun z8 => ((f_St_changed N z8 (z7.2, z5.2.2)).bind fun z9 => ((f_Rv_pageOf N (nI r) ).bind fun z10 => ((f_St_changed N z10 z9.2).bind fun z11 => f_Rv_clean_2 N n (nI r) (nI (k + 1)) (z11.2, W)))))))) := by
          rw [f_Rv_clean_2, if_neg (nle15 (k := k) (by omega))]
          dsimp only
          rw [rolled_eq N hS.1 (by omega), if_pos h0]
          simp only [Option.bind_some]
          rw [if_neg (by decide), if_pos hx, nI_clamp (by omega), e1, if_neg (by rw [zm1 (by omega)]; simp), pgI (by omega), pgI e4]
          simp only [Option.bind_some]
          rw [nI_1]
        have hmo : ∀ cb ch pl th rf, f_Mo_clean_0 N (m + 1) (nI r) (mkV S cb ch pl th 0 rf) = ((f_Mo_note N (nI (pgN r)) (nI (pgN (lF S.1 r))) (mkV S cb ch pl th 0 rf)).bind fun z7 => (if z7.2.2.2.2.2.2.2.2.2.2.2.2.1 = 0 then ((f_Mo_move N (nI (lF S.1 r)) (nI r) z7.2).bind fun z8 => ((f_Mo_free N (nI (lF S.1 r)) z8.2).bind fun z9 => f_Mo_clean_0 N m (nI r) z9.2)) else some ((), z7.2))) := by
          intro cb ch pl th rf
          rw [hmc, behind_eq N hR hRr]
          simp only [Option.bind_some]
          rw [show nxI S.1 r = nI (lF S.1 r) from if_neg e2, if_pos (nI_pos' (by omega)), pgM (by omega), pgM e4]
          rfl
        rcases q3 with ⟨rfl, qN, qs⟩ | ⟨rfl, qs⟩
        · have qm := qN.mem
          have hIS : IS (emS (lF S.1 r) (moS (lF S.1 r) r S1)) := q2.mv hr e4 (by rw [qm]; exact h0.1) (by rw [qm]) e2 (qN.edge hpr hne)
          have hfc2 : fc S.1 < fc (emS (lF S.1 r) (moS (lF S.1 r) r S1)).1 := by
            refine fc_em S.1 e3 e4 (hR0.2.1 _ e5).2.1 (fun i hi => ?_)
            unfold emS moS
            dsimp only
            rw [qm]
            unfold bF nu upd
            dsimp only
            by_cases his : i = lF S.1 r
            · rw [if_pos his, if_pos his]; rfl
            · rw [if_neg his, if_neg his, if_neg (by omega)]
          have hle : fc (emS (lF S.1 r) (moS (lF S.1 r) r S1)).1 ≤ 9 := cn_le _ _ _
          obtain ⟨res, S', g1, g2, g3⟩ := ih (w - 1) (by omega) (k + 1) n m _ hIS (by omega) (by omega) (by omega) (by omega)
          refine ⟨res, S', ?_, g2, ?_⟩
          · rw [hcl, q1]
            simp only [Option.bind_some]
            rw [if_neg (by decide), move_eq N e4 (by omega)]
            simp only [Option.bind_some]
            rw [empty_eq N e4]
            simp only [Option.bind_some]
            rw [pgI e4]
            simp only [Option.bind_some]
            rw [chg_eq]
            simp only [Option.bind_some]
            rw [pgI (by omega)]
            simp only [Option.bind_some]
            rw [chg_eq]
            simp only [Option.bind_some]
            rw [or_rc]
            exact g1
          · rcases g3 with ⟨e, g3⟩ | ⟨e, g3⟩
            · refine Or.inl ⟨e, fun cb ch pl th rf => ?_⟩
              obtain ⟨pl1, qs⟩ := qs cb ch pl th rf
              rw [hmo, qs]
              simp only [Option.bind_some]
              rw [if_pos (show (mkV S1 cb ch pl1 th 0 rf).2.2.2.2.2.2.2.2.2.2.2.1 = 0 from rfl), mmove_eq N e4 (by omega)]
              simp only [Option.bind_some]
              rw [mfree_eq N e4]
              exact g3 cb ch pl1 th rf
            · refine Or.inr ⟨e, fun cb ch pl th rf => ?_⟩
              obtain ⟨pl1, qs⟩ := qs cb ch pl th rf
              rw [hmo, qs]
              simp only [Option.bind_some]
              rw [if_pos (show (mkV S1 cb ch pl1 th 0 rf).2.2.2.2.2.2.2.2.2.2.2.1 = 0 from rfl), mmove_eq N e4 (by omega)]
              simp only [Option.bind_some]
              rw [mfree_eq N e4]
              exact g3 cb ch pl1 th rf
        · refine ⟨0, S1, ?_, q2, Or.inr ⟨rfl, fun cb ch pl th rf => ?_⟩⟩
          · rw [hcl, q1]; rfl
          · obtain ⟨pl1, qs⟩ := qs cb ch pl th rf
            refine ⟨pl1, ?_⟩
            rw [hmo, qs]
            simp only [Option.bind_some]
            rw [if_neg (show ¬ (mkV S1 cb ch pl1 th 1 rf).2.2.2.2.2.2.2.2.2.2.2.1 = 0 from by show ¬ (1 : Int32) = 0; decide)]
    · refine ⟨1, S, ?_, hS, Or.inl ⟨rfl, fun cb ch pl th rf => ⟨pl, mclean_s N hS hr m cb ch pl th rf h0⟩⟩⟩
      rw [f_Rv_clean_2, if_neg (nle15 (k := k) (by omega))]
      dsimp only
      rw [rolled_eq N hS.1 (by omega), if_neg h0]
      rfl
theorem clean_root (N : Nat) (hN : 100000000 ≤ N) {r : Nat} (hr : r < 6) {U : K_Rv} (hU : IS U.1) : ∃ res S', f_Rv_clean N (nI r) U = some (res, (S', U.2)) ∧ IS S' ∧ ((res = 1 ∧ ∀ cb ch pl th rf, ∃ pl', f_Mo_clean N (nI r) (mkV U.1 cb ch pl th 0 rf) = some ((), mkV S' cb ch pl' th 0 rf)) ∨ (res = 0 ∧ ∀ cb ch pl th rf, ∃ pl', f_Mo_clean N (nI r) (mkV U.1 cb ch pl th 0 rf) = some ((), mkV S' cb ch pl' th 1 rf))) := clean_both N hN hr U.2 9 0 N N U.1 hU (by omega) (by omega) (by omega) (by omega)
end PO3
