/-! THE PURE PART, 12: how many bits -/
section PP12
def bcn (d : Int32) : Nat → Nat
  | 0 => 0
  | k + 1 => bcn d k + (if bz d k = true then 1 else 0)
theorem ibc_all : ∀ m, m < 128 → f_JI_bitCount 0 (nI m) = some (nI (bcn (nI m) 7)) := by decide +kernel
theorem ibc_eq (N : Nat) (d : Int32) (h : Mk d) : f_JI_bitCount N d = some (nI (bcn d 7)) := by
  have e : d = nI d.toBitVec.toNat := Int32.toBitVec_inj.mp (by show _ = BitVec.ofNat 32 _; simp)
  have hlt : d.toBitVec.toNat < 2 ^ 7 := Nat.lt_pow_two_of_testBit _ (fun i hi => by rw [BitVec.testBit_toNat]; exact h i hi)
  rw [e]
  exact ibc_all _ hlt
/-- bytes -/
def vb : List Nat → Nat
  | [] => 0
  | b :: l => b + 256 * vb l
def mb (c : Nat) : Nat → Nat
  | 0 => 0
  | n + 1 => c + 256 * mb c n
theorem land_split {a c q d : Nat} (ha : a < 256) (hc : c < 256) : (a + 256 * q) &&& (c + 256 * d) = (a &&& c) + 256 * (q &&& d) := by
  have hac : a &&& c < 2 ^ 8 := Nat.and_lt_two_pow _ hc
  rw [show a + 256 * q = 2 ^ 8 * q + a from by omega, show c + 256 * d = 2 ^ 8 * d + c from by omega, show (a &&& c) + 256 * (q &&& d) = 2 ^ 8 * (q &&& d) + (a &&& c) from by omega]
  apply Nat.eq_of_testBit_eq
  intro j
  rw [Nat.testBit_and, Nat.testBit_two_pow_mul_add _ ha, Nat.testBit_two_pow_mul_add _ hc, Nat.testBit_two_pow_mul_add _ hac]
  by_cases hj : j < 8
  · rw [if_pos hj, if_pos hj, if_pos hj, Nat.testBit_and]
  · rw [if_neg hj, if_neg hj, if_neg hj, Nat.testBit_and]
def f1 (b : Nat) : Nat := b - ((b / 2) &&& 85)
def f2 (b : Nat) : Nat := (b &&& 51) + ((b / 4) &&& 51)
def f3 (b : Nat) : Nat := (b + b / 16) &&& 15
theorem d1 : ∀ b, b < 256 → ∀ e, e < 2 → (b / 2 + 128 * e) &&& 85 = (b / 2) &&& 85 ∧ (b / 2) &&& 85 ≤ b ∧ f1 b < 256 := by decide +kernel
theorem d2 : ∀ b, b < 256 → ∀ e, e < 4 → (b / 4 + 64 * e) &&& 51 = (b / 4) &&& 51 ∧ f2 b < 256 := by decide +kernel
theorem d3 : ∀ b, b < 69 → ∀ e, e < 5 → (b + b / 16 + 16 * e) &&& 15 = f3 b := by decide +kernel
theorem d4 : ∀ b, b < 256 → f2 (f1 b) < 69 ∧ f2 (f1 b) % 16 < 5 ∧ f3 (f2 (f1 b)) ≤ 8 := by decide +kernel
theorem s1 : ∀ l : List Nat, (∀ b ∈ l, b < 256) → vb l - ((vb l / 2) &&& mb 85 l.length) = vb (l.map f1) := by
  intro l
  induction l with
  | nil => intro _; rfl
  | cons b l ih =>
    intro h
    have hb := h b (List.mem_cons_self ..)
    have ih := ih (fun c hc => h c (List.mem_cons_of_mem _ hc))
    show b + 256 * vb l - (((b + 256 * vb l) / 2) &&& (85 + 256 * mb 85 l.length)) = f1 b + 256 * vb (l.map f1)
    obtain ⟨k1, k2, k3⟩ := d1 b hb (vb l % 2) (by omega)
    rw [show (b + 256 * vb l) / 2 = (b / 2 + 128 * (vb l % 2)) + 256 * (vb l / 2) from by omega, land_split (by omega) (by omega), k1, ← ih]
    have hle : (vb l / 2) &&& mb 85 l.length ≤ vb l / 2 := Nat.and_le_left
    unfold f1
    generalize (vb l / 2) &&& mb 85 l.length = B at *
    generalize (b / 2) &&& 85 = A at *
    omega
theorem s2 : ∀ l : List Nat, (∀ b ∈ l, b < 256) → (vb l &&& mb 51 l.length) + ((vb l / 4) &&& mb 51 l.length) = vb (l.map f2) := by
  intro l
  induction l with
  | nil => intro _; rfl
  | cons b l ih =>
    intro h
    have hb := h b (List.mem_cons_self ..)
    have ih := ih (fun c hc => h c (List.mem_cons_of_mem _ hc))
    show ((b + 256 * vb l) &&& (51 + 256 * mb 51 l.length)) + (((b + 256 * vb l) / 4) &&& (51 + 256 * mb 51 l.length)) = f2 b + 256 * vb (l.map f2)
    obtain ⟨k1, k2⟩ := d2 b hb (vb l % 4) (by omega)
    rw [show (b + 256 * vb l) / 4 = (b / 4 + 64 * (vb l % 4)) + 256 * (vb l / 4) from by omega, land_split (by omega) (by omega), land_split (by omega) (by omega), k1, ← ih]
    unfold f2
    omega
theorem s3 : ∀ l : List Nat, (∀ b ∈ l, b < 69 ∧ b % 16 < 5) → (vb l + vb l / 16) &&& mb 15 l.length = vb (l.map f3) := by
  intro l
  induction l with
  | nil => intro _; rfl
  | cons b l ih =>
    intro h
    have hb := h b (List.mem_cons_self ..)
    have hl := fun c hc => h c (List.mem_cons_of_mem b hc)
    have ih := ih hl
    have hq : vb l % 16 < 5 := by
      cases l with
      | nil => show 0 % 16 < 5; omega
      | cons c l =>
        have := hl c (List.mem_cons_self ..)
        show (c + 256 * vb l) % 16 < 5
        omega
    show ((b + 256 * vb l) + (b + 256 * vb l) / 16) &&& (15 + 256 * mb 15 l.length) = f3 b + 256 * vb (l.map f3)
    rw [show (b + 256 * vb l) + (b + 256 * vb l) / 16 = (b + b / 16 + 16 * (vb l % 16)) + 256 * (vb l + vb l / 16) from by omega, land_split (by omega) (by omega), d3 b hb.1 _ hq, ← ih]
/-- the bits of a number -/
def pc2 (X : Nat) : Nat → Nat
  | 0 => 0
  | n + 1 => pc2 X n + (if X.testBit n = true then 1 else 0)
theorem pc8 : ∀ b, b < 256 → pc2 b 8 = f3 (f2 (f1 b)) := by decide +kernel
theorem pc2_split {b q : Nat} (hb : b < 256) : ∀ n, pc2 (b + 256 * q) (8 + n) = pc2 b 8 + pc2 q n := by
  have e : b + 256 * q = 2 ^ 8 * q + b := by omega
  intro n
  induction n with
  | zero =>
    have : ∀ k, k ≤ 8 → pc2 (b + 256 * q) k = pc2 b k := by
      intro k
      induction k with
      | zero => intro _; rfl
      | succ k ih =>
        intro hk
        rw [pc2, pc2, ih (by omega), e, Nat.testBit_two_pow_mul_add _ hb, if_pos (by omega : k < 8)]
    exact this 8 (Nat.le_refl _)
  | succ n ih =>
    show pc2 (b + 256 * q) (8 + n) + (if (b + 256 * q).testBit (8 + n) = true then 1 else 0) = pc2 b 8 + (pc2 q n + (if q.testBit n = true then 1 else 0))
    rw [ih, e, Nat.testBit_two_pow_mul_add _ hb, if_neg (by omega : ¬ 8 + n < 8), show 8 + n - 8 = n from by omega, Nat.add_assoc]
theorem bytes : ∀ (n X : Nat), X < 256 ^ n → ∃ l : List Nat, l.length = n ∧ (∀ b ∈ l, b < 256) ∧ vb l = X := by
  intro n
  induction n with
  | zero => intro X h; exact ⟨[], rfl, fun b hb => absurd hb List.not_mem_nil, by show 0 = X; rw [Nat.pow_zero] at h; omega⟩
  | succ n ih =>
    intro X h
    rw [Nat.pow_succ] at h
    obtain ⟨l, h1, h2, h3⟩ := ih (X / 256) (by omega)
    refine ⟨X % 256 :: l, by rw [List.length_cons, h1], fun b hb => ?_, ?_⟩
    · rcases List.mem_cons.mp hb with rfl | hb
      · omega
      · exact h2 b hb
    · show X % 256 + 256 * vb l = X
      rw [h3]; omega
theorem vb_lt : ∀ l : List Nat, (∀ b ∈ l, b < 69) → 3 * vb l < 256 ^ l.length := by
  intro l
  induction l with
  | nil => intro _; decide
  | cons b l ih =>
    intro h
    have hb := h b (List.mem_cons_self ..)
    have ih := ih (fun c hc => h c (List.mem_cons_of_mem _ hc))
    show 3 * (b + 256 * vb l) < 256 ^ (l.length + 1)
    rw [Nat.pow_succ]
    omega
def sm : List Nat → Nat
  | [] => 0
  | b :: l => f3 (f2 (f1 b)) + sm l
theorem pc2_sum : ∀ l : List Nat, (∀ b ∈ l, b < 256) → pc2 (vb l) (8 * l.length) = sm l := by
  intro l
  induction l with
  | nil => intro _; rfl
  | cons b l ih =>
    intro h
    have hb := h b (List.mem_cons_self ..)
    have ih := ih (fun c hc => h c (List.mem_cons_of_mem _ hc))
    show pc2 (b + 256 * vb l) (8 * (l.length + 1)) = f3 (f2 (f1 b)) + sm l
    rw [show 8 * (l.length + 1) = 8 + 8 * l.length from by omega, pc2_split hb, ih, pc8 b hb]
theorem dv {a q : Nat} (h : a < 256) : (a + 256 * q) / 256 = q := by omega
theorem xl {α β : Type} (e : α) (k : α → β) (P : α → Prop) (r : β) (hP : P e) (h : ∀ y, P y → k y = r) : xlet e k = r := h e hP
def un (x : Int64) : Nat := x.toBitVec.toNat
theorem un_lt (x : Int64) : un x < 18446744073709551616 := x.toBitVec.isLt
theorem un_and (x y : Int64) : un (x &&& y) = un x &&& un y := by unfold un; rw [Int64.toBitVec_and, BitVec.toNat_and]
theorem un_add (x y : Int64) : un (x + y) = (un x + un y) % 18446744073709551616 := by unfold un; rw [Int64.toBitVec_add, BitVec.toNat_add]
theorem un_sub {x y : Int64} (h : un y ≤ un x) : un (x - y) = un x - un y := by
  have h1 := un_lt x
  unfold un at *
  rw [Int64.toBitVec_sub, BitVec.toNat_sub]
  omega
theorem un_shr (x : Int64) (s : UInt64) (k p : Nat) (hs : s.toNat % 64 = k) (hp : 2 ^ k = p) : un ((x.toUInt64 >>> s).toInt64) = un x / p := by
  show (x.toUInt64 >>> s).toNat = un x / p
  rw [UInt64.toNat_shiftRight, hs, Nat.shiftRight_eq_div_pow, hp]
  rfl
theorem un_32 (x : Int64) : (x.toInt32 &&& 127).toBitVec.toNat = un x % 4294967296 % 128 := by
  rw [Int32.toBitVec_and, BitVec.toNat_and]
  have e : (127 : Int32).toBitVec.toNat = 2 ^ 7 - 1 := by decide
  rw [e, Nat.and_two_pow_sub_one_eq_mod]
  have : x.toInt32.toBitVec.toNat = un x % 4294967296 := by
    rw [Int64.toBitVec_toInt32, BitVec.signExtend_eq_setWidth_of_le _ (by omega), BitVec.toNat_setWidth]
    rfl
  rw [this]
set_option maxHeartbeats 16000000 in
theorem jl_eq (N : Nat) (x : Int64) : f_JL_bitCount N x = some (nI (pc2 (un x) 64)) := by
  obtain ⟨l, h1, h2, h3⟩ := bytes 8 (un x) (un_lt x)
  have hp : (un ((((x).toUInt64 >>> (((1 : Int32)).toInt64.toUInt64 &&& Int64.toUInt64 63)).toInt64 &&& (6148914691236517205 : Int64)))) = (un x / 2) &&& mb 85 8 := by
    rw [un_and, un_shr _ _ 1 2 (by decide) (by decide)]; rfl
  have hy1 : un (x - (((x).toUInt64 >>> (((1 : Int32)).toInt64.toUInt64 &&& Int64.toUInt64 63)).toInt64 &&& (6148914691236517205 : Int64))) = vb (l.map f1) := by
    have hle : (un x / 2) &&& mb 85 8 ≤ un x / 2 := Nat.and_le_left
    rw [un_sub (by rw [hp]; omega), hp, ← h3, ← h1, s1 l h2]
  have b1 : ∀ b ∈ l.map f1, b < 256 := fun b hb => by
    obtain ⟨c, hc, rfl⟩ := List.mem_map.mp hb
    exact (d1 c (h2 c hc) 0 (by omega)).2.2
  have b2 : ∀ b ∈ (l.map f1).map f2, b < 69 ∧ b % 16 < 5 := fun b hb => by
    obtain ⟨c, hc, rfl⟩ := List.mem_map.mp hb
    obtain ⟨a, ha, rfl⟩ := List.mem_map.mp hc
    exact ⟨(d4 a (h2 a ha)).1, (d4 a (h2 a ha)).2.1⟩
  have hlen1 : (l.map f1).length = 8 := by rw [List.length_map, h1]
  have hlen2 : ((l.map f1).map f2).length = 8 := by rw [List.length_map, hlen1]
  have hlt2 := vb_lt _ (fun b hb => (b2 b hb).1)
  rw [hlen2] at hlt2
  have hsum := pc2_sum l h2
  rw [h1, h3] at hsum
  rw [show 64 = 8 * 8 from rfl, hsum]
  unfold f_JL_bitCount
  refine xl _ _ (fun y => un y = vb (l.map f1)) _ hy1 (fun y1 g1 => ?_)
  refine xl _ _ (fun y => un y = vb ((l.map f1).map f2)) _ ?_ (fun y2 g2 => ?_)
  · have e := s2 (l.map f1) b1
    rw [hlen1] at e
    rw [un_add, un_and, un_and, un_shr _ _ 2 4 (by decide) (by decide), g1, show un (3689348814741910323 : Int64) = mb 51 8 from by decide +kernel, e]
    exact Nat.mod_eq_of_lt (by omega)
  refine xl _ _ (fun y => un y = vb (((l.map f1).map f2).map f3)) _ ?_ (fun y3 g3 => ?_)
  · have e := s3 ((l.map f1).map f2) b2
    rw [hlen2] at e
    rw [un_and, un_add, un_shr _ _ 4 16 (by decide) (by decide), g2, Nat.mod_eq_of_lt (by omega), show un (1085102592571150095 : Int64) = mb 15 8 from by decide +kernel, e]
  have b3 : ∀ b ∈ l, f3 (f2 (f1 b)) ≤ 8 := fun b hb => (d4 b (h2 b hb)).2.2
  match l, h1, b3, g3 with
  | [a0, a1, a2, a3, a4, a5, a6, a7], _, b3, g3 =>
    have c0 := b3 a0 (by simp)
    have c1 := b3 a1 (by simp)
    have c2 := b3 a2 (by simp)
    have c3 := b3 a3 (by simp)
    have c4 := b3 a4 (by simp)
    have c5 := b3 a5 (by simp)
    have c6 := b3 a6 (by simp)
    have c7 := b3 a7 (by simp)
    have g3 : un y3 = f3 (f2 (f1 a0)) + 256 * (f3 (f2 (f1 a1)) + 256 * (f3 (f2 (f1 a2)) + 256 * (f3 (f2 (f1 a3)) + 256 * (f3 (f2 (f1 a4)) + 256 * (f3 (f2 (f1 a5)) + 256 * (f3 (f2 (f1 a6)) + 256 * (f3 (f2 (f1 a7)) + 256 * 0))))))) := g3
    show _ = some (nI (f3 (f2 (f1 a0)) + (f3 (f2 (f1 a1)) + (f3 (f2 (f1 a2)) + (f3 (f2 (f1 a3)) + (f3 (f2 (f1 a4)) + (f3 (f2 (f1 a5)) + (f3 (f2 (f1 a6)) + (f3 (f2 (f1 a7)) + 0)))))))))
    clear b3 hsum hy1 b1 b2 hlen1 hlen2 hlt2 hp
    generalize f3 (f2 (f1 a0)) = p0 at *
    generalize f3 (f2 (f1 a1)) = p1 at *
    generalize f3 (f2 (f1 a2)) = p2 at *
    generalize f3 (f2 (f1 a3)) = p3 at *
    generalize f3 (f2 (f1 a4)) = p4 at *
    generalize f3 (f2 (f1 a5)) = p5 at *
    generalize f3 (f2 (f1 a6)) = p6 at *
    generalize f3 (f2 (f1 a7)) = p7 at *
    clear g1 g2
    have hQ : un y3 / 256 = p1 + 256 * (p2 + 256 * (p3 + 256 * (p4 + 256 * (p5 + 256 * (p6 + 256 * (p7 + 256 * 0)))))) := by rw [g3]; exact dv (by omega)
    refine xl _ _ (fun y => un y = (p0 + p1) + 256 * ((p1 + p2) + 256 * ((p2 + p3) + 256 * ((p3 + p4) + 256 * ((p4 + p5) + 256 * ((p5 + p6) + 256 * ((p6 + p7) + 256 * p7))))))) _ ?_ (fun y4 g4 => ?_)
    · rw [un_add, un_shr _ _ 8 256 (by decide) (by decide), hQ, g3]
      clear g3 hQ
      rw [Nat.mod_eq_of_lt (by omega)]
      omega
    clear g3 hQ
    have hT : un y4 / 65536 = (p2 + p3) + 256 * ((p3 + p4) + 256 * ((p4 + p5) + 256 * ((p5 + p6) + 256 * ((p6 + p7) + 256 * p7)))) := by
      rw [show 65536 = 256 * 256 from rfl, ← Nat.div_div_eq_div_mul, g4, dv (by omega), dv (by omega)]
    refine xl _ _ (fun y => un y = ((p0 + p1) + (p2 + p3)) + 256 * (((p1 + p2) + (p3 + p4)) + 256 * (((p2 + p3) + (p4 + p5)) + 256 * (((p3 + p4) + (p5 + p6)) + 256 * (((p4 + p5) + (p6 + p7)) + 256 * (((p5 + p6) + p7) + 256 * ((p6 + p7) + 256 * p7))))))) _ ?_ (fun y5 g5 => ?_)
    · rw [un_add, un_shr _ _ 16 65536 (by decide) (by decide), hT, g4]
      clear g4 hT
      rw [Nat.mod_eq_of_lt (by omega)]
      omega
    clear g4 hT
    have hV : un y5 / 4294967296 = ((p4 + p5) + (p6 + p7)) + 256 * (((p5 + p6) + p7) + 256 * ((p6 + p7) + 256 * p7)) := by
      rw [show 4294967296 = 256 * 256 * 256 * 256 from rfl, ← Nat.div_div_eq_div_mul, ← Nat.div_div_eq_div_mul, ← Nat.div_div_eq_div_mul, g5, dv (by omega), dv (by omega), dv (by omega), dv (by omega)]
    refine xl _ _ (fun y => un y % 256 = p0 + (p1 + (p2 + (p3 + (p4 + (p5 + (p6 + p7))))))) _ ?_ (fun y6 g6 => ?_)
    · rw [un_add, un_shr _ _ 32 4294967296 (by decide) (by decide), hV, g5]
      clear g5 hV
      rw [Nat.mod_eq_of_lt (b := 18446744073709551616) (by omega)]
      generalize ((p1 + p2) + (p3 + p4)) + 256 * (((p2 + p3) + (p4 + p5)) + 256 * (((p3 + p4) + (p5 + p6)) + 256 * (((p4 + p5) + (p6 + p7)) + 256 * (((p5 + p6) + p7) + 256 * ((p6 + p7) + 256 * p7))))) = A
      generalize ((p5 + p6) + p7) + 256 * ((p6 + p7) + 256 * p7) = B
      omega
    clear g5 hV
    congr 1
    apply Int32.toBitVec_inj.mp
    apply BitVec.eq_of_toNat_eq
    rw [un_32]
    show _ = (p0 + (p1 + (p2 + (p3 + (p4 + (p5 + (p6 + (p7 + 0)))))))) % 4294967296
    generalize un y6 = z at *
    omega
/-- the sets of transactions -/
def sF (st : Nat → Int32) (v : Int32) : Nat → Nat → Int64 → Int64
  | 0, _, a => a
  | j + 1, k, a => sF st v j (k + 1) (if st k = v then a ||| ((1 : Int64) <<< ((nI k).toInt64 &&& 63)) else a)
theorem setIn5 (N : Nat) (C : K_Co) (v : Int32) : ∀ (j k n : Nat) (a : Int64), k + j = 41 → j < n → f_Co_setIn_5 N n v a (nI k) C = some (sF C.2.2.2 v j k a, C) := by
  intro j
  induction j with
  | zero =>
    intro k n a hk hn
    obtain ⟨n, rfl⟩ : ∃ m, n = m + 1 := ⟨n - 1, by omega⟩
    rw [f_Co_setIn_5, if_pos (lt40 (k := k) (by omega) (by omega))]; rfl
  | succ j ih =>
    intro k n a hk hn
    obtain ⟨n, rfl⟩ : ∃ m, n = m + 1 := ⟨n - 1, by omega⟩
    rw [f_Co_setIn_5, if_neg (nlt40 (k := k) (by omega)), if_pos (nI_xi (by omega) (by omega)), nI_clamp (by omega), nI_1, sF]
    by_cases h : C.2.2.2 k = v
    · rw [if_pos h, if_pos h]; exact ih (k + 1) n _ (by omega) (by omega)
    · rw [if_neg h, if_neg h]; exact ih (k + 1) n _ (by omega) (by omega)
theorem setIn_eq (N : Nat) (hN : 100000000 ≤ N) (C : K_Co) (v : Int32) : f_Co_setIn N v C = some (sF C.2.2.2 v 40 1 0, C) := setIn5 N C v 40 1 N 0 rfl (by omega)
theorem sF_bit (st : Nat → Int32) (v : Int32) : ∀ (j k : Nat) (a : Int64) (i : Nat), k + j ≤ 41 → by64 (sF st v j k a) i = (by64 a i || (decide (k ≤ i ∧ i < k + j) && decide (st i = v))) := by
  intro j
  induction j with
  | zero =>
    intro k a i _
    rw [sF, show decide (k ≤ i ∧ i < k + 0) = false from decide_eq_false (by omega)]; simp
  | succ j ih =>
    intro k a i hk
    rw [sF, ih (k + 1) _ i (by omega)]
    by_cases h : st k = v
    · rw [if_pos h, by_or, by_one (by omega)]
      by_cases e : i = k
      · subst e; simp [h]
      · rw [show decide (i = k) = false from decide_eq_false e, show decide (k ≤ i ∧ i < k + (j + 1)) = decide (k + 1 ≤ i ∧ i < k + 1 + j) from by congr 1; apply propext; omega]
        simp
    · rw [if_neg h]
      by_cases e : i = k
      · subst e; simp [h]
      · rw [show decide (k ≤ i ∧ i < k + (j + 1)) = decide (k + 1 ≤ i ∧ i < k + 1 + j) from by congr 1; apply propext; omega]
theorem pc_cA {st : Nat → Int32} {X : Nat} (h : ∀ i, X.testBit i = (decide (1 ≤ i ∧ i < 41) && decide (st i = 1))) : pc2 X 64 = cA st 40 := by
  have a : ∀ n, n ≤ 40 → pc2 X (n + 1) = cA st n := by
    intro n
    induction n with
    | zero =>
      intro _
      rw [pc2, pc2, h 0]; simp [cA]
    | succ n ih =>
      intro hn
      rw [pc2, ih (by omega), cA, h (n + 1), show decide (1 ≤ n + 1 ∧ n + 1 < 41) = true from decide_eq_true (by omega)]
      simp
  have b : ∀ m, pc2 X (41 + m) = pc2 X 41 := by
    intro m
    induction m with
    | zero => rfl
    | succ m ih => rw [show 41 + (m + 1) = (41 + m) + 1 from rfl, pc2, ih, h, show decide (1 ≤ 41 + m ∧ 41 + m < 41) = false from decide_eq_false (by omega)]; simp
  exact (b 23).trans (a 40 (Nat.le_refl _))
theorem act_eq (N : Nat) (hN : 100000000 ≤ N) (C : K_Co) : f_Co_active N C = some (nI (cA C.2.2.2 40), C) := by
  unfold f_Co_active
  rw [setIn_eq N hN]
  simp only [Option.bind_some]
  rw [jl_eq, pc_cA (st := C.2.2.2) (fun i => ?_)]
  · rfl
  · unfold un
    rw [BitVec.testBit_toNat]
    have := sF_bit C.2.2.2 1 40 1 0 i (by omega)
    rw [by_0, Bool.false_or] at this
    exact this
end PP12
