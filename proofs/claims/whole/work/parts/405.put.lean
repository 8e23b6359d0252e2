/-! THE PURE PART, 6: a page and those that must be written before it: both sides -/
section PQ
/-- page q waits: it is noted before p, and dirty -/
def wt (S : K_St) (p q : Nat) : Bool := bz (S.2.2.1 p) q && bz S.2.2.2.1 q
theorem wt_and (S : K_St) (p q : Nat) : bz (S.2.2.1 p &&& S.2.2.2.1) q = wt S p q := bz_and _ _ _
theorem wf_skip (N : Nat) {S : K_St} {p : Nat} (hp : p < 7) (cb : Nat → Int64) (ch pl : Nat → Int32) (th cr rf : Int32) : ∀ (t k n : Nat), k + t ≤ 7 → (∀ q, k ≤ q → q < k + t → wt S p q = false) → f_Mo_waitsFor_2 N (n + t) (nI p) (nI k) (mkV S cb ch pl th cr rf) = f_Mo_waitsFor_2 N n (nI p) (nI (k + t)) (mkV S cb ch pl th cr rf) := by
  intro t
  induction t with
  | zero => intro k n _ _; rfl
  | succ t ih =>
    intro k n hk h
    have hs : f_Mo_waitsFor_2 N (n + t + 1) (nI p) (nI k) (mkV S cb ch pl th cr rf) = f_Mo_waitsFor_2 N (n + t) (nI p) (nI (k + 1)) (mkV S cb ch pl th cr rf) := by
      have hw := h k (by omega) (by omega)
      rw [f_Mo_waitsFor_2, if_neg (nle7 (k := k) (by omega)), if_pos (nI_xi hp (by omega)), nI_clamp (by omega), nI_1]
      show (if (((S.2.2.1 p) >>> (nI k &&& 31)) &&& (1 : Int32)) = 0 then _ else (if xi (nI k) 7 = true then (if dA S.2.2.2.1 (nI k).toNatClampNeg = 0 then _ else _) else none)) = _
      by_cases hb : bz (S.2.2.1 p) k = false
      · rw [if_pos ((mo_bit (by omega) _).mpr hb)]
      · rw [if_neg (fun h => hb ((mo_bit (by omega) _).mp h)), if_pos (nI_xi (by omega) (by omega)), nI_clamp (by omega), if_pos ((dA_0 _ (by omega)).mpr (by unfold wt at hw; simpa [hb] using hw))]
    rw [show n + (t + 1) = n + t + 1 from rfl, hs, ih (k + 1) n (by omega) (fun q h1 h2 => h q (by omega) (by omega)), show k + 1 + t = k + (t + 1) from by omega]
theorem wf_none (N : Nat) (hN : 50 ≤ N) {S : K_St} {p : Nat} (hp : p < 7) (cb : Nat → Int64) (ch pl : Nat → Int32) (th cr rf : Int32) (h : ∀ q, q < 7 → wt S p q = false) : f_Mo_waitsFor N (nI p) (mkV S cb ch pl th cr rf) = some (-1, mkV S cb ch pl th cr rf) := by
  unfold f_Mo_waitsFor
  have := wf_skip N hp cb ch pl th cr rf 7 0 (N - 7) (by omega) (fun q _ hq => h q (by omega)) (S := S)
  rw [show N - 7 + 7 = N from by omega] at this
  rw [← nI_0, this, show N - 7 = (N - 8) + 1 from by omega, f_Mo_waitsFor_2, if_pos (by decide)]
theorem wf_some (N : Nat) (hN : 50 ≤ N) {S : K_St} {p k : Nat} (hp : p < 7) (hk : k < 7) (cb : Nat → Int64) (ch pl : Nat → Int32) (th cr rf : Int32) (h : ∀ q, q < k → wt S p q = false) (hw : wt S p k = true) : f_Mo_waitsFor N (nI p) (mkV S cb ch pl th cr rf) = some (nI k, mkV S cb ch pl th cr rf) := by
  unfold f_Mo_waitsFor
  have := wf_skip N hp cb ch pl th cr rf k 0 (N - k) (by omega) (fun q _ hq => h q (by omega)) (S := S)
  rw [show N - k + k = N from by omega] at this
  rw [← nI_0, this, show N - k = (N - k - 1) + 1 from by omega, show 0 + k = k from by omega, f_Mo_waitsFor_2, if_neg (nle7 hk), if_pos (nI_xi hp (by omega)), nI_clamp (by omega)]
  show (if (((S.2.2.1 p) >>> (nI k &&& 31)) &&& (1 : Int32)) = 0 then _ else (if xi (nI k) 7 = true then (if dA S.2.2.2.1 (nI k).toNatClampNeg = 0 then _ else _) else none)) = _
  unfold wt at hw
  simp only [Bool.and_eq_true] at hw
  rw [if_neg (by rw [mo_bit hk, hw.1]; simp), if_pos (nI_xi (by omega) (by omega)), nI_clamp (by omega), if_neg (by rw [dA_0 _ hk, hw.2]; simp)]
theorem st_push (N : Nat) (hN : 50 ≤ N) {S : K_St} {p k m : Nat} (hp : p < 7) (hk : k < 7) (hm : m + 1 < 8) (n : Nat) (cb : Nat → Int64) (ch pl : Nat → Int32) (th rf : Int32) (hpl : pl m = nI p) (h : ∀ q, q < k → wt S p q = false) (hw : wt S p k = true) :
    f_Mo_store_9 N (n + 1) (nI (m + 1)) (mkV S cb ch pl th 0 rf) = f_Mo_store_9 N n (nI (m + 2)) (mkV S cb ch (upd pl (m + 1) (nI k)) th 0 rf) := by
  rw [f_Mo_store_9, if_neg (nI_nle (by omega) (by omega)), nI_pred]
  rw [if_pos (show (mkV S cb ch pl th 0 rf).2.2.2.2.2.2.2.2.2.2.2.1 = 0 from rfl), if_pos (nI_xi (by omega) (by omega)), nI_clamp (by omega)]
  rw [show (mkV S cb ch pl th 0 rf).2.2.2.2.2.2.1 m = nI p from hpl, wf_some N hN hp hk cb ch pl th 0 rf h hw]
  simp only [Option.bind_some]
  rw [if_neg (nI_pos (by omega)), if_pos (nI_xi (by omega) (by omega)), nI_clamp (by omega), nI_1]
  rfl
theorem st_put (N : Nat) (hN : 50 ≤ N) {S : K_St} {p m : Nat} (hp : p < 7) (hm : m < 8) (n : Nat) (cb : Nat → Int64) (ch pl : Nat → Int32) (th rf : Int32) (hpl : pl m = nI p) (h : ∀ q, q < 7 → wt S p q = false) :
    f_Mo_store_9 N (n + 1) (nI (m + 1)) (mkV S cb ch pl th 0 rf) = (f_Mo_put N (nI p) (mkV S cb ch pl th 0 rf)).bind fun z => f_Mo_store_9 N n (nI m) z.2 := by
  rw [f_Mo_store_9, if_neg (nI_nle (by omega) (by omega)), nI_pred]
  rw [if_pos (show (mkV S cb ch pl th 0 rf).2.2.2.2.2.2.2.2.2.2.2.1 = 0 from rfl), if_pos (nI_xi (by omega) (by omega)), nI_clamp (by omega)]
  rw [show (mkV S cb ch pl th 0 rf).2.2.2.2.2.2.1 m = nI p from hpl, wf_none N hN hp cb ch pl th 0 rf h]
  simp only [Option.bind_some]
  rw [if_pos (show (-1 : Int32) < 0 from by decide), if_pos (nI_xi (by omega) (by omega)), pk_m1]
  show (f_Mo_put N (pl m) _).bind _ = _
  rw [hpl]
theorem st_end (N : Nat) {S : K_St} {m : Nat} (hm : m < 8) (n : Nat) (cb : Nat → Int64) (ch pl : Nat → Int32) (th rf : Int32) : f_Mo_store_9 N (n + 1) (nI m) (mkV S cb ch pl th 1 rf) = some ((), mkV S cb ch pl th 1 rf) := by
  rw [f_Mo_store_9]
  by_cases h : nI m ≤ 0
  · rw [if_pos h]
  · rw [if_neg h, if_neg (show ¬ (mkV S cb ch pl th 1 rf).2.2.2.2.2.2.2.2.2.2.2.1 = 0 from by show ¬ (1 : Int32) = 0; decide)]
/-- the reference's piles -/
def TT : Nat → Nat
  | 0 => 2
  | r + 1 => 2 + 7 * (TT r + 1)
def PutB (N : Nat) (S : K_St) (p m B : Nat) (res : Int32) (S' : K_St) : Prop :=
  ((res = 1 ∧ Ws S S' ∧ bz S'.2.2.2.1 p = false ∧ (∀ q, q < 7 → bz (S'.2.2.1 q) p = false)) ∨ (res = 0 ∧ IS S')) ∧ ∀ cb ch (pl : Nat → Int32) th rf, pl m = nI p → ∃ c pl', (∀ i, i < m → pl' i = pl i) ∧ c ≤ B ∧ ∀ f, (res = 1 → f_Mo_store_9 N (f + c) (nI (m + 1)) (mkV S cb ch pl th 0 rf) = f_Mo_store_9 N f (nI m) (mkV S' cb ch pl' th 0 rf)) ∧ (res = 0 → f_Mo_store_9 N (f + c) (nI (m + 1)) (mkV S cb ch pl th 0 rf) = some ((), mkV S' cb ch pl' th 1 rf))
theorem put_end (N : Nat) (hN : 50 ≤ N) {S : K_St} (hS : IS S) (rc : Int32 → Int32 → K_St → Option (Int32 × K_St)) (n : Nat) {p m : Nat} (hp : p < 7) (hm : m < 8) (x2 : Int32) (h : ∀ q, q < 7 → wt S p q = false) :
    ∃ res S', f_St_put_10 N rc (n + 1) (nI p) x2 (nI 7) S = some (res, S') ∧ PutB N S p m 2 res S' := by
  obtain ⟨k, hk, hf⟩ := hS.2.2.2.2.1
  have hq : ∀ q, q < 7 → bz (S.2.2.1 p) q = true → bz S.2.2.2.1 q = false := fun q hq he => by
    have := h q hq
    unfold wt at this
    simpa [he] using this
  by_cases h1 : k = 1
  · subst h1
    have hS0 : IS (S.1, (S.2.1, (S.2.2.1, (S.2.2.2.1, (S.2.2.2.2.1, (S.2.2.2.2.2.1, (0 : Int32))))))) := ⟨hS.1, hS.2.1, hS.2.2.1, hS.2.2.2.1, ⟨0, by omega, rfl⟩, hS.2.2.2.2.2.1, hS.2.2.2.2.2.2.1, hS.2.2.2.2.2.2.2⟩
    obtain ⟨S', g1, g2, g3⟩ := fall_both N hN hS0
    refine ⟨0, S', ?_, Or.inr ⟨rfl, g2⟩, fun cb ch pl th rf hpl => ⟨2, pl, fun _ _ => rfl, by omega, fun f => ⟨fun h => absurd h (by decide), fun _ => ?_⟩⟩⟩
    · rw [f_St_put_10, if_pos (by decide)]
      unfold f_St_failsNow
      rw [if_neg (by rw [hf]; decide), if_pos (by rw [hf]; decide)]
      simp only [Option.bind_some]
      rw [if_neg (by decide), hf, show nI 1 - 1 = (0 : Int32) from by decide, g1]
      rfl
    · rw [show f + 2 = (f + 1) + 1 from rfl, st_put N hN hp hm (f + 1) cb ch pl th rf hpl h]
      unfold f_Mo_put
      rw [if_pos (show (mkV S cb ch pl th 0 rf).2.2.2.2.2.2.2.2.2.2.1 = 1 from hf)]
      have := g3 cb ch pl th 0 rf
      have e : f_Mo_fall N ((mkV S cb ch pl th 0 rf).1, ((mkV S cb ch pl th 0 rf).2.1, ((mkV S cb ch pl th 0 rf).2.2.1, ((mkV S cb ch pl th 0 rf).2.2.2.1, ((mkV S cb ch pl th 0 rf).2.2.2.2.1, ((mkV S cb ch pl th 0 rf).2.2.2.2.2.1, ((mkV S cb ch pl th 0 rf).2.2.2.2.2.2.1, ((mkV S cb ch pl th 0 rf).2.2.2.2.2.2.2.1, ((mkV S cb ch pl th 0 rf).2.2.2.2.2.2.2.2.1, ((mkV S cb ch pl th 0 rf).2.2.2.2.2.2.2.2.2.1, ((0 : Int32), (mkV S cb ch pl th 0 rf).2.2.2.2.2.2.2.2.2.2.2))))))))))) = some ((), mkV S' cb ch pl th 1 rf) := this
      rw [e]
      simp only [Option.bind_some]
      exact st_end N hm f cb ch pl th rf
  · refine ⟨1, wrS p (nI (k - 1)) S, ?_, Or.inl ⟨rfl, Ws.one hp ⟨k - 1, by omega, rfl⟩ hq, ?_, fun q hq => ?_⟩, fun cb ch pl th rf hpl => ⟨1, pl, fun _ _ => rfl, by omega, fun f => ⟨fun _ => ?_, fun h => absurd h (by decide)⟩⟩⟩
    · obtain ⟨M, D, e, d, w, c, f⟩ := S
      dsimp only at hf
      subst hf
      rw [f_St_put_10, if_pos (by decide)]
      by_cases h0 : k = 0
      · subst h0
        unfold f_St_failsNow
        rw [if_pos (show nI 0 = 0 from rfl)]
        simp only [Option.bind_some, if_true]
        rw [take_page N hp]
        simp only [Option.bind_some]
        rw [settle_eq N (by omega)]
        rfl
      · unfold f_St_failsNow
        obtain ⟨j, rfl⟩ : ∃ j, k = j + 1 := ⟨k - 1, by omega⟩
        rw [if_neg (by rw [zl0, nI_eq (by omega) (by omega)]; omega), if_neg (by dsimp only; rw [nI_pred, zl0, nI_eq (by omega) (by omega)]; omega)]
        simp only [Option.bind_some, if_true]
        rw [take_page N hp]
        simp only [Option.bind_some]
        rw [settle_eq N (by omega), nI_pred]
        rfl
    · show bz (S.2.2.2.1 &&& _) p = false
      rw [bz_not hp]; simp
    · show bz (eN p S.2.2.1 q) p = false
      unfold eN
      rw [if_pos hq, bz_not hp]; simp
    · rw [st_put N hN hp hm f cb ch pl th rf hpl h, mput N hN hS hp hk hf h1]
      rfl
theorem put_both (N : Nat) (hN : 50 ≤ N) (ρ : Nat → Nat) : ∀ (r p d j m : Nat) (S : K_St), p < 7 → ρ p < r → r ≤ d → j + r ≤ 7 → m + r ≤ 8 → IS S → Rho ρ S.2.2.1 → ∃ res S', f_St_put N d (nI p) (nI j) S = some (res, S') ∧ PutB N S p m (TT r) res S' := by
  intro r
  induction r with
  | zero => intro p d j m S hp h; omega
  | succ r ih =>
    intro p d j m S hp hr hd hj hm hS hR
    obtain ⟨d, rfl⟩ : ∃ e, d = e + 1 := ⟨d - 1, by omega⟩
    have inner : ∀ (jj k n : Nat) (S : K_St), k + jj = 7 → jj < n → IS S → Rho ρ S.2.2.1 → (∀ q, q < k → wt S p q = false) → ∃ res S', f_St_put_10 N (f_St_put N d) n (nI p) (nI j) (nI k) S = some (res, S') ∧ PutB N S p m (2 + jj * (TT r + 1)) res S' := by
      intro jj
      induction jj with
      | zero =>
        intro k n S hk hn hS hR hq
        have hk7 : k = 7 := by omega
        subst hk7
        obtain ⟨n, rfl⟩ : ∃ e, n = e + 1 := ⟨n - 1, by omega⟩
        rw [Nat.zero_mul]
        exact put_end N hN hS _ n hp (by omega) _ hq
      | succ jj ih2 =>
        intro k n S hk hn hS hR hq
        obtain ⟨n, rfl⟩ : ∃ e, n = e + 1 := ⟨n - 1, by omega⟩
        have hmul : (jj + 1) * (TT r + 1) = jj * (TT r + 1) + (TT r + 1) := Nat.succ_mul _ _
        have step : f_St_put_10 N (f_St_put N d) (n + 1) (nI p) (nI j) (nI k) S = if wt S p k = true then ((f_St_put N d (nI k) (nI (j + 1)) S).bind fun z8 => (if z8.1 = 0 then some ((0 : Int32), z8.2) else f_St_put_10 N (f_St_put N d) n (nI p) (nI j) (nI (k + 1)) z8.2)) else f_St_put_10 N (f_St_put N d) n (nI p) (nI j) (nI (k + 1)) S := by
          rw [f_St_put_10, if_neg (nle7 (k := k) (by omega)), if_pos (nI_xi hp (by omega)), nI_clamp (by omega), f_has7 N (by omega), wt_and, nI_1, nI_1]
          simp only [Option.bind_some]
          cases wt S p k
          · rfl
          · rfl
        rw [step]
        by_cases hw : wt S p k = true
        · rw [if_pos hw]
          have hw2 := hw
          unfold wt at hw2
          simp only [Bool.and_eq_true] at hw2
          have hrk := hR.2 k p (by omega) hp hw2.1
          obtain ⟨res1, S1, g1, g2, g3⟩ := ih k d (j + 1) (m + 1) S (by omega) (by omega) (by omega) (by omega) (by omega) hS hR
          rw [g1]
          simp only [Option.bind_some]
          rcases g2 with ⟨rfl, gW, gd, ge⟩ | ⟨rfl, gI⟩
          · rw [if_neg (by decide)]
            obtain ⟨res, S', k1, k2, k3⟩ := ih2 (k + 1) n S1 (by omega) (by omega) (gW.is hS) (gW.rho hR) (fun q hq1 => by
              unfold wt
              by_cases hqk : q = k
              · subst hqk; rw [gd]; simp
              · have := hq q (by omega)
                unfold wt at this
                cases he : bz (S1.2.2.1 p) q
                · rfl
                · cases hd1 : bz S1.2.2.2.1 q
                  · rfl
                  · rw [gW.e p q he, gW.d q hd1] at this; exact this)
            refine ⟨res, S', k1, ?_, fun cb ch pl th rf hpl => ?_⟩
            · rcases k2 with ⟨e, kW, kd, ke⟩ | k2
              · exact Or.inl ⟨e, gW.trans kW, kd, ke⟩
              · exact Or.inr k2
            · obtain ⟨c1, pl1, p1, q1, s1⟩ := g3 cb ch (upd pl (m + 1) (nI k)) th rf (upd_s _ _ _)
              obtain ⟨c2, pl2, p2, q2, s2⟩ := k3 cb ch pl1 th rf (by rw [p1 m (by omega), upd_o _ _ (by omega)]; exact hpl)
              refine ⟨1 + c1 + c2, pl2, fun i hi => by rw [p2 i hi, p1 i (by omega), upd_o _ _ (by omega)], by omega, fun f => ?_⟩
              have e := st_push N hN hp (k := k) (by omega) (m := m) (by omega) (f + c2 + c1) cb ch pl th rf hpl hq hw
              rw [show f + (1 + c1 + c2) = f + c2 + c1 + 1 from by omega, e, (s1 (f + c2)).1 rfl]
              exact s2 f
          · rw [if_pos rfl]
            refine ⟨0, S1, rfl, Or.inr ⟨rfl, gI⟩, fun cb ch pl th rf hpl => ?_⟩
            obtain ⟨c1, pl1, p1, q1, s1⟩ := g3 cb ch (upd pl (m + 1) (nI k)) th rf (upd_s _ _ _)
            refine ⟨1 + c1, pl1, fun i hi => by rw [p1 i (by omega), upd_o _ _ (by omega)], by omega, fun f => ⟨fun h => absurd h (by decide), fun _ => ?_⟩⟩
            rw [show f + (1 + c1) = f + c1 + 1 from by omega, st_push N hN hp (k := k) (by omega) (m := m) (by omega) (f + c1) cb ch pl th rf hpl hq hw]
            exact (s1 f).2 rfl
        · rw [if_neg hw]
          obtain ⟨res, S', k1, k2, k3⟩ := ih2 (k + 1) n S (by omega) (by omega) hS hR (fun q hq1 => by
            by_cases hqk : q = k
            · subst hqk; simpa using hw
            · exact hq q (by omega))
          refine ⟨res, S', k1, k2, fun cb ch pl th rf hpl => ?_⟩
          obtain ⟨c2, pl2, p2, q2, s2⟩ := k3 cb ch pl th rf hpl
          exact ⟨c2, pl2, p2, by omega, s2⟩
    obtain ⟨res, S', k1, k2⟩ := inner 7 0 N S rfl (by omega) hS hR (fun q hq => by omega)
    refine ⟨res, S', ?_, k2⟩
    rw [f_St_put]
    show (if nI j < 7 then f_St_put_10 N (f_St_put N d) N (nI p) (nI j) 0 S else some (1, S)) = _
    rw [if_pos (show nI j < 7 from nI_lt (b := 7) (by omega) (by omega))]
    exact k1
end PQ
