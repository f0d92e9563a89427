/-! THE NUMBER OF BITS, BY BYTES -/
theorem and_cut (a m : Nat) : a &&& m = (a % 256 &&& m % 256) + 256 * (a / 256 &&& m / 256) := by
  have h1 : (a &&& m) % 2 ^ 8 = (a % 2 ^ 8) &&& (m % 2 ^ 8) := Nat.and_mod_two_pow
  have h2 : (a &&& m) / 2 ^ 8 = (a / 2 ^ 8) &&& (m / 2 ^ 8) := Nat.and_div_two_pow
  have h3 := Nat.mod_add_div (a &&& m) (2 ^ 8)
  rw [h1, h2] at h3
  exact h3.symm
theorem by1 : ∀ b : Fin 256, ∀ e : Fin 2, ((b.val / 2 + 128 * e.val) &&& 0x55) = ((b.val / 2) &&& 0x55) ∧ ((b.val / 2) &&& 0x55) ≤ b.val := by decide +kernel
theorem by2 : ∀ c : Fin 256, ∀ e : Fin 4, ((c.val / 4 + 64 * e.val) &&& 0x33) = ((c.val / 4) &&& 0x33) := by decide +kernel
def p1 (b : Nat) : Nat := b - ((b / 2) &&& 0x55)
def p2 (b : Nat) : Nat := (p1 b &&& 0x33) + ((p1 b / 4) &&& 0x33)
def p3 (b : Nat) : Nat := (p2 b + p2 b / 16) &&& 0x0f
def pc8 (b : Nat) : Nat := b % 2 + b / 2 % 2 + b / 4 % 2 + b / 8 % 2 + b / 16 % 2 + b / 32 % 2 + b / 64 % 2 + b / 128 % 2
theorem by3 : ∀ b : Fin 256, p1 b.val < 256 ∧ p2 b.val % 16 ≤ 4 ∧ p2 b.val / 16 ≤ 4 ∧ p3 b.val = pc8 b.val ∧ pc8 b.val ≤ 8 := by decide +kernel
theorem by4 : ∀ d : Fin 5, ∀ u : Fin 5, ∀ e : Fin 5, ((d.val * 16 + u.val + d.val + 16 * e.val) &&& 0x0f) = ((d.val * 16 + u.val + d.val) &&& 0x0f) := by decide +kernel
def mk (v : Nat) : Nat → Nat
  | 0 => 0
  | n + 1 => v + 256 * mk v n
def q1 (n x : Nat) : Nat := x - ((x / 2) &&& mk 0x55 n)
def q2 (n x : Nat) : Nat := (q1 n x &&& mk 0x33 n) + ((q1 n x / 4) &&& mk 0x33 n)
def q3 (n x : Nat) : Nat := (q2 n x + q2 n x / 16) &&& mk 0x0f n
theorem mk_s (v n : Nat) (hv : v < 256) : mk v (n + 1) % 256 = v ∧ mk v (n + 1) / 256 = mk v n := by
  have e : mk v (n + 1) = v + 256 * mk v n := rfl
  rw [e]
  omega
theorem q1_s (n b y : Nat) (hb : b < 256) : q1 (n + 1) (b + 256 * y) = p1 b + 256 * q1 n y := by
  obtain ⟨m1, m2⟩ := mk_s 0x55 n (by decide)
  have h := by1 ⟨b, hb⟩ ⟨y % 2, by omega⟩
  dsimp only at h
  unfold q1 p1
  rw [and_cut, m1, m2, show (b + 256 * y) / 2 % 256 = b / 2 + 128 * (y % 2) by omega, show (b + 256 * y) / 2 / 256 = y / 2 by omega, h.1]
  have h2 : (y / 2 &&& mk 85 n) ≤ y / 2 := Nat.and_le_left
  have h3 := h.2
  omega
theorem q2_s (n b y : Nat) (hb : b < 256) : q2 (n + 1) (b + 256 * y) = p2 b + 256 * q2 n y := by
  obtain ⟨m1, m2⟩ := mk_s 0x33 n (by decide)
  have hp := (by3 ⟨b, hb⟩).1
  dsimp only at hp
  have h := by2 ⟨p1 b, hp⟩ ⟨q1 n y % 4, by omega⟩
  dsimp only at h
  unfold q2
  rw [q1_s n b y hb, and_cut (p1 b + 256 * q1 n y), and_cut ((p1 b + 256 * q1 n y) / 4), m1, m2, show (p1 b + 256 * q1 n y) % 256 = p1 b by omega, show (p1 b + 256 * q1 n y) / 256 = q1 n y by omega, show (p1 b + 256 * q1 n y) / 4 % 256 = p1 b / 4 + 64 * (q1 n y % 4) by omega, show (p1 b + 256 * q1 n y) / 4 / 256 = q1 n y / 4 by omega, h]
  unfold p2
  omega
theorem q2_low (n y : Nat) : q2 n y % 16 ≤ 4 := by
  cases n with
  | zero => unfold q2 mk; simp
  | succ n =>
    have e : y = y % 256 + 256 * (y / 256) := by omega
    rw [e, q2_s n (y % 256) (y / 256) (by omega)]
    have := (by3 ⟨y % 256, by omega⟩).2.1
    dsimp only at this
    omega
theorem q3_s (n b y : Nat) (hb : b < 256) : q3 (n + 1) (b + 256 * y) = pc8 b + 256 * q3 n y := by
  obtain ⟨m1, m2⟩ := mk_s 0x0f n (by decide)
  obtain ⟨-, h2, h3, h4, -⟩ := by3 ⟨b, hb⟩
  dsimp only at h2 h3 h4
  have hl := q2_low n y
  have h := by4 ⟨p2 b / 16, by omega⟩ ⟨p2 b % 16, by omega⟩ ⟨q2 n y % 16, by omega⟩
  dsimp only at h
  unfold q3
  rw [q2_s n b y hb, and_cut, m1, m2, show (p2 b + 256 * q2 n y + (p2 b + 256 * q2 n y) / 16) % 256 = p2 b / 16 * 16 + p2 b % 16 + p2 b / 16 + 16 * (q2 n y % 16) by omega, show (p2 b + 256 * q2 n y + (p2 b + 256 * q2 n y) / 16) / 256 = q2 n y + q2 n y / 16 by omega, h, ← h4]
  unfold p3
  rw [show p2 b / 16 * 16 + p2 b % 16 + p2 b / 16 = p2 b + p2 b / 16 by omega]
def by_ (x i : Nat) : Nat := x / 256 ^ i % 256
def pcB (x : Nat) : Nat := pc8 (by_ x 0) + pc8 (by_ x 1) + pc8 (by_ x 2) + pc8 (by_ x 3) + pc8 (by_ x 4) + pc8 (by_ x 5) + pc8 (by_ x 6) + pc8 (by_ x 7)
theorem q3_8 (x : Nat) (hx : x < 2 ^ 64) : q3 8 x = pc8 (by_ x 0) + 256 * (pc8 (by_ x 1) + 256 * (pc8 (by_ x 2) + 256 * (pc8 (by_ x 3) + 256 * (pc8 (by_ x 4) + 256 * (pc8 (by_ x 5) + 256 * (pc8 (by_ x 6) + 256 * pc8 (by_ x 7))))))) := by
  have st : ∀ n y, q3 (n + 1) y = pc8 (y % 256) + 256 * q3 n (y / 256) := by
    intro n y
    have e : y = y % 256 + 256 * (y / 256) := by omega
    have := q3_s n (y % 256) (y / 256) (by omega)
    rw [← e] at this
    exact this
  have z : ∀ y, q3 0 y = 0 := by intro y; unfold q3 mk; simp
  rw [st, st, st, st, st, st, st, st, z]
  unfold by_
  simp only [Nat.div_div_eq_div_mul, Nat.pow_zero, Nat.div_one, Nat.mul_zero, Nat.add_zero]
theorem pop_nat (x : Nat) (hx : x < 2 ^ 64) : ∀ s3, s3 = q3 8 x → ∀ s4, s4 = s3 + s3 / 256 → ∀ s5, s5 = s4 + s4 / 65536 → ∀ s6, s6 = s5 + s5 / 4294967296 → s6 % 128 = pcB x := by
  intro s3 h3 s4 h4 s5 h5 s6 h6
  rw [q3_8 x hx] at h3
  have b : ∀ i, pc8 (by_ x i) ≤ 8 := fun i => (by3 ⟨by_ x i, Nat.mod_lt _ (by decide)⟩).2.2.2.2
  have b0 := b 0
  have b1 := b 1
  have b2 := b 2
  have b3 := b 3
  have b4 := b 4
  have b5 := b 5
  have b6 := b 6
  have b7 := b 7
  unfold pcB
  generalize pc8 (by_ x 0) = c0 at *
  generalize pc8 (by_ x 1) = c1 at *
  generalize pc8 (by_ x 2) = c2 at *
  generalize pc8 (by_ x 3) = c3 at *
  generalize pc8 (by_ x 4) = c4 at *
  generalize pc8 (by_ x 5) = c5 at *
  generalize pc8 (by_ x 6) = c6 at *
  generalize pc8 (by_ x 7) = c7 at *
  have a1 : s3 / 256 = c1 + 256 * (c2 + 256 * (c3 + 256 * (c4 + 256 * (c5 + 256 * (c6 + 256 * (c7)))))) := by omega
  have a2 : s4 = (c0 + c1) + 256 * ((c1 + c2) + 256 * ((c2 + c3) + 256 * ((c3 + c4) + 256 * ((c4 + c5) + 256 * ((c5 + c6) + 256 * ((c6 + c7) + 256 * (c7))))))) := by omega
  clear h4 h3 a1
  have a3 : s4 / 65536 = (c2 + c3) + 256 * ((c3 + c4) + 256 * ((c4 + c5) + 256 * ((c5 + c6) + 256 * ((c6 + c7) + 256 * (c7))))) := by omega
  have a4 : s5 = ((c0 + c1) + (c2 + c3)) + 256 * (((c1 + c2) + (c3 + c4)) + 256 * (((c2 + c3) + (c4 + c5)) + 256 * (((c3 + c4) + (c5 + c6)) + 256 * (((c4 + c5) + (c6 + c7)) + 256 * (((c5 + c6) + c7) + 256 * ((c6 + c7) + 256 * (c7))))))) := by omega
  clear h5 a2 a3
  have a5 : s5 / 4294967296 = ((c4 + c5) + (c6 + c7)) + 256 * (((c5 + c6) + c7) + 256 * ((c6 + c7) + 256 * (c7))) := by omega
  omega
theorem mk55 : mk 0x55 8 = 6148914691236517205 := by decide +kernel
theorem mk33 : mk 0x33 8 = 3689348814741910323 := by decide +kernel
theorem mk0f : mk 0x0f 8 = 1085102592571150095 := by decide +kernel
set_option maxRecDepth 4000 in
theorem pop64 {ns nb x : Nat} {σ : Sg} (hx : x < 2 ^ 64) : FJ13_bitCount_95d88 ns nb σ (lN x) = some (nI (pcB x), σ) := by
  have sh : ∀ (k : Nat) (n : Nat), n < 2 ^ 64 → k < 64 → ((lN n).toUInt64 >>> ((nI k).toInt64.toUInt64 &&& Int64.toUInt64 63)).toInt64 = lN (n / 2 ^ k) := fun k n h1 h2 => wb_shr h1 h2
  have e1 : ((lN x).toUInt64 >>> ((1 : Int32).toInt64.toUInt64 &&& Int64.toUInt64 63)).toInt64 = lN (x / 2) := sh 1 x hx (by decide)
  have e2 : lN (x / 2) &&& 6148914691236517205 = lN (x / 2 &&& mk 0x55 8) := by
    rw [mk55]; exact wb_and (by omega) (by decide)
  have l1 : (x / 2 &&& mk 0x55 8) ≤ x / 2 := Nat.and_le_left
  have e3 : lN x - lN (x / 2 &&& mk 0x55 8) = lN (q1 8 x) := lN_sub (by omega)
  have b1 : q1 8 x < 2 ^ 64 := by unfold q1; omega
  have e4 : lN (q1 8 x) &&& 3689348814741910323 = lN (q1 8 x &&& mk 0x33 8) := by
    rw [mk33]; exact wb_and b1 (by decide)
  have e5 : ((lN (q1 8 x)).toUInt64 >>> ((2 : Int32).toInt64.toUInt64 &&& Int64.toUInt64 63)).toInt64 = lN (q1 8 x / 4) := sh 2 _ b1 (by decide)
  have e6 : lN (q1 8 x / 4) &&& 3689348814741910323 = lN (q1 8 x / 4 &&& mk 0x33 8) := by
    rw [mk33]; exact wb_and (by omega) (by decide)
  have e7 : lN (q1 8 x &&& mk 0x33 8) + lN (q1 8 x / 4 &&& mk 0x33 8) = lN (q2 8 x) := lN_add _ _
  have l2 : (q1 8 x &&& mk 0x33 8) ≤ mk 0x33 8 := Nat.and_le_right
  have l3 : (q1 8 x / 4 &&& mk 0x33 8) ≤ mk 0x33 8 := Nat.and_le_right
  rw [mk33] at l2 l3
  have b2 : q2 8 x ≤ 7378697629483820646 := by unfold q2; rw [mk33]; omega
  have e8 : ((lN (q2 8 x)).toUInt64 >>> ((4 : Int32).toInt64.toUInt64 &&& Int64.toUInt64 63)).toInt64 = lN (q2 8 x / 16) := sh 4 _ (by omega) (by decide)
  have e9 : lN (q2 8 x) + lN (q2 8 x / 16) = lN (q2 8 x + q2 8 x / 16) := lN_add _ _
  have e10 : lN (q2 8 x + q2 8 x / 16) &&& 1085102592571150095 = lN (q3 8 x) := by
    have := wb_and (a := q2 8 x + q2 8 x / 16) (b := mk 0x0f 8) (by omega) (by rw [mk0f]; decide)
    rw [mk0f] at this
    refine this.trans ?_
    unfold q3
    rw [mk0f]
  have b3 : q3 8 x ≤ 1085102592571150095 := by unfold q3; rw [mk0f]; exact Nat.and_le_right
  obtain ⟨s3, h3⟩ : ∃ s3, s3 = q3 8 x := ⟨_, rfl⟩
  rw [← h3] at e10 b3
  obtain ⟨s4, h4⟩ : ∃ s4, s4 = s3 + s3 / 256 := ⟨_, rfl⟩
  obtain ⟨s5, h5⟩ : ∃ s5, s5 = s4 + s4 / 65536 := ⟨_, rfl⟩
  obtain ⟨s6, h6⟩ : ∃ s6, s6 = s5 + s5 / 4294967296 := ⟨_, rfl⟩
  have e11 : ((lN s3).toUInt64 >>> ((8 : Int32).toInt64.toUInt64 &&& Int64.toUInt64 63)).toInt64 = lN (s3 / 256) := sh 8 _ (by omega) (by decide)
  have e12 : lN s3 + lN (s3 / 256) = lN s4 := by rw [h4]; exact lN_add _ _
  have e13 : ((lN s4).toUInt64 >>> ((16 : Int32).toInt64.toUInt64 &&& Int64.toUInt64 63)).toInt64 = lN (s4 / 65536) := sh 16 _ (by omega) (by decide)
  have e14 : lN s4 + lN (s4 / 65536) = lN s5 := by rw [h5]; exact lN_add _ _
  have e15 : ((lN s5).toUInt64 >>> ((32 : Int32).toInt64.toUInt64 &&& Int64.toUInt64 63)).toInt64 = lN (s5 / 4294967296) := sh 32 _ (by omega) (by decide)
  have e16 : lN s5 + lN (s5 / 4294967296) = lN s6 := by rw [h6]; exact lN_add _ _
  have e17 : (lN s6).toInt32 &&& 127 = nI (pcB x) := by
    rw [lN_i, ← pop_nat x hx s3 h3 s4 h4 s5 h5 s6 h6]
    exact fa_mask s6 7
  unfold FJ13_bitCount_95d88
  rw [e1, e2, e3, e4, e5, e6, e7, e8, e9, e10, e11, e12, e13, e14, e15, e16, e17]
/-- one bit more -/
theorem pc8_or : ∀ b : Fin 256, ∀ j : Fin 8, pc8 (b.val ||| 2 ^ j.val) = pc8 b.val + (1 - b.val / 2 ^ j.val % 2) := by decide +kernel
theorem tw : ∀ j : Fin 64, ∀ i : Fin 8, 2 ^ j.val / 2 ^ (8 * i.val) % 2 ^ 8 = if i.val = j.val / 8 then 2 ^ (j.val % 8) else 0 := by decide +kernel
theorem by_2 (x i : Nat) : by_ x i = x / 2 ^ (8 * i) % 2 ^ 8 := by
  unfold by_
  rw [Nat.pow_mul]
theorem by_or (x j i : Nat) (hj : j < 64) (hi : i < 8) : by_ (x ||| 2 ^ j) i = by_ x i ||| (if i = j / 8 then 2 ^ (j % 8) else 0) := by
  have h := tw ⟨j, hj⟩ ⟨i, hi⟩
  dsimp only at h
  rw [by_2, by_2, Nat.or_div_two_pow, Nat.or_mod_two_pow, h]
theorem by_bit (x j : Nat) : by_ x (j / 8) / 2 ^ (j % 8) % 2 = if x.testBit j then 1 else 0 := by
  have h : (by_ x (j / 8)).testBit (j % 8) = x.testBit j := by
    rw [by_2, Nat.testBit_mod_two_pow, Nat.testBit_div_two_pow, show j % 8 + 8 * (j / 8) = j by omega]
    simp
    intro _
    omega
  rw [Nat.testBit_eq_decide_div_mod_eq] at h
  by_cases c : x.testBit j = true
  · rw [c] at h ⊢
    exact of_decide_eq_true h
  · have c2 : x.testBit j = false := by simpa using c
    rw [c2] at h ⊢
    have := of_decide_eq_false h
    simp
    omega
theorem pcB_or (x j : Nat) (hj : j < 64) : pcB (x ||| 2 ^ j) = pcB x + (if x.testBit j then 0 else 1) := by
  have hb := by_bit x j
  have h8 : ∀ i, pc8 (by_ x i ||| 2 ^ (j % 8)) = pc8 (by_ x i) + (1 - by_ x i / 2 ^ (j % 8) % 2) := fun i => pc8_or ⟨by_ x i, Nat.mod_lt _ (by decide)⟩ ⟨j % 8, by omega⟩
  have hk : pc8 (by_ x (j / 8) ||| 2 ^ (j % 8)) = pc8 (by_ x (j / 8)) + (if x.testBit j then 0 else 1) := by
    rw [h8, hb]
    by_cases c : x.testBit j = true
    · rw [if_pos c, if_pos c]
    · rw [if_neg c, if_neg c]
  unfold pcB
  rw [by_or x j 0 hj (by decide), by_or x j 1 hj (by decide), by_or x j 2 hj (by decide), by_or x j 3 hj (by decide), by_or x j 4 hj (by decide), by_or x j 5 hj (by decide), by_or x j 6 hj (by decide), by_or x j 7 hj (by decide)]
  rcases (show j / 8 = 0 ∨ j / 8 = 1 ∨ j / 8 = 2 ∨ j / 8 = 3 ∨ j / 8 = 4 ∨ j / 8 = 5 ∨ j / 8 = 6 ∨ j / 8 = 7 by omega) with q | q | q | q | q | q | q | q <;> rw [q] at hk ⊢ <;> simp only [if_true, Nat.or_zero, hk, show ¬ ((0 : Nat) = 1) by decide, show ¬ ((0 : Nat) = 2) by decide, show ¬ ((0 : Nat) = 3) by decide, show ¬ ((0 : Nat) = 4) by decide, show ¬ ((0 : Nat) = 5) by decide, show ¬ ((0 : Nat) = 6) by decide, show ¬ ((0 : Nat) = 7) by decide, show ¬ ((1 : Nat) = 0) by decide, show ¬ ((1 : Nat) = 2) by decide, show ¬ ((1 : Nat) = 3) by decide, show ¬ ((1 : Nat) = 4) by decide, show ¬ ((1 : Nat) = 5) by decide, show ¬ ((1 : Nat) = 6) by decide, show ¬ ((1 : Nat) = 7) by decide, show ¬ ((2 : Nat) = 0) by decide, show ¬ ((2 : Nat) = 1) by decide, show ¬ ((2 : Nat) = 3) by decide, show ¬ ((2 : Nat) = 4) by decide, show ¬ ((2 : Nat) = 5) by decide, show ¬ ((2 : Nat) = 6) by decide, show ¬ ((2 : Nat) = 7) by decide, show ¬ ((3 : Nat) = 0) by decide, show ¬ ((3 : Nat) = 1) by decide, show ¬ ((3 : Nat) = 2) by decide, show ¬ ((3 : Nat) = 4) by decide, show ¬ ((3 : Nat) = 5) by decide, show ¬ ((3 : Nat) = 6) by decide, show ¬ ((3 : Nat) = 7) by decide, show ¬ ((4 : Nat) = 0) by decide, show ¬ ((4 : Nat) = 1) by decide, show ¬ ((4 : Nat) = 2) by decide, show ¬ ((4 : Nat) = 3) by decide, show ¬ ((4 : Nat) = 5) by decide, show ¬ ((4 : Nat) = 6) by decide, show ¬ ((4 : Nat) = 7) by decide, show ¬ ((5 : Nat) = 0) by decide, show ¬ ((5 : Nat) = 1) by decide, show ¬ ((5 : Nat) = 2) by decide, show ¬ ((5 : Nat) = 3) by decide, show ¬ ((5 : Nat) = 4) by decide, show ¬ ((5 : Nat) = 6) by decide, show ¬ ((5 : Nat) = 7) by decide, show ¬ ((6 : Nat) = 0) by decide, show ¬ ((6 : Nat) = 1) by decide, show ¬ ((6 : Nat) = 2) by decide, show ¬ ((6 : Nat) = 3) by decide, show ¬ ((6 : Nat) = 4) by decide, show ¬ ((6 : Nat) = 5) by decide, show ¬ ((6 : Nat) = 7) by decide, show ¬ ((7 : Nat) = 0) by decide, show ¬ ((7 : Nat) = 1) by decide, show ¬ ((7 : Nat) = 2) by decide, show ¬ ((7 : Nat) = 3) by decide, show ¬ ((7 : Nat) = 4) by decide, show ¬ ((7 : Nat) = 5) by decide, show ¬ ((7 : Nat) = 6) by decide, if_false] <;> omega
/-! CHORD -/
def mtB (A : Ab) (t : Int32) (k : Nat) : Bool := decide (nI (A 4 0 (4 * k)) = t)
def snB (A : Ab) (t : Int32) : Nat → Nat → Bool
  | 0, _ => false
  | k + 1, v => snB A t k v || (mtB A t k && decide (A 4 0 (4 * k + 3) = v))
def ctA (A : Ab) (t : Int32) : Nat → Nat
  | 0 => 0
  | k + 1 => ctA A t k + (if (mtB A t k && !snB A t k (A 4 0 (4 * k + 3))) = true then 1 else 0)
theorem or_lt {x j : Nat} (hx : x < 2 ^ 64) (hj : j < 64) : x ||| 2 ^ j < 2 ^ 64 := Nat.or_lt_two_pow hx (Nat.pow_lt_pow_right (by decide) hj)
theorem ch22 {A : Ab} {ns nb : Nat} {σ : Sg} {t : Int32} (hC : cSg A σ) (h250 : A 3 0 1 ≤ 250) (hn : ∀ j, j < A 3 0 1 → A 4 0 (4 * j + 3) ≤ 87) : ∀ (m k fuel lo hi : Nat), k + m = A 3 0 1 → m < fuel → lo < 2 ^ 64 → hi < 2 ^ 64 → (∀ v, v < 64 → lo.testBit v = snB A t k v) → (∀ v, v < 64 → hi.testBit v = snB A t k (v + 64)) → pcB lo + pcB hi = ctA A t k → ∃ lo' hi' : Nat, lo' < 2 ^ 64 ∧ hi' < 2 ^ 64 ∧ pcB lo' + pcB hi' = ctA A t (A 3 0 1) ∧ LX4_chord_22 ns nb t fuel (lN lo) (lN hi) (nI k) σ = some (lN lo', lN hi', σ) := by
  intro m
  induction m with
  | zero =>
    intro k fuel lo hi hk hf h1 h2 h3 h4 h5
    obtain ⟨u, rfl⟩ : ∃ u, fuel = u + 1 := ⟨fuel - 1, by omega⟩
    have : k = A 3 0 1 := by omega
    exact ⟨lo, hi, h1, h2, by rw [← this]; exact h5, by rw [LX4_chord_22, hC.1, if_pos (nI_le (by omega) (by omega))]⟩
  | succ m ih =>
    intro k fuel lo hi hk hf h1 h2 h3 h4 h5
    obtain ⟨u, rfl⟩ : ∃ u, fuel = u + 1 := ⟨fuel - 1, by omega⟩
    have t0 : FX2_told ns nb σ (nI k) 0 = some (nI (A 4 0 (4 * k)), σ) := told4 hC h250 (w := 0) (by omega) (by decide)
    have t3 : FX2_told ns nb σ (nI k) 3 = some (nI (A 4 0 (4 * k + 3)), σ) := told4 hC h250 (w := 3) (by omega) (by decide)
    have nv := hn k (by omega)
    rw [LX4_chord_22, hC.1, if_neg (nI_ge (by omega) (by omega)), t0, Option.bind_some]
    dsimp only
    by_cases ht : nI (A 4 0 (4 * k)) = t
    · have hmt : mtB A t k = true := decide_eq_true ht
      rw [if_pos ht, t3, Option.bind_some]
      dsimp only
      obtain ⟨v, ev⟩ : ∃ v, v = A 4 0 (4 * k + 3) := ⟨_, rfl⟩
      have es : ∀ w, snB A t (k + 1) w = (snB A t k w || decide (v = w)) := fun w => by rw [snB, hmt, Bool.true_and, ev]
      have ec : ctA A t (k + 1) = ctA A t k + (if snB A t k v = true then 0 else 1) := by
        rw [ctA, hmt, Bool.true_and, ← ev]
        cases snB A t k v <;> rfl
      rw [← ev] at nv ⊢
      by_cases h64 : 64 ≤ v
      · have e1 : lN hi ||| ((1 : Int64) <<< ((nI v - 64).toInt64 &&& 63)) = lN (hi ||| 2 ^ (v - 64)) := by
          rw [show (64 : Int32) = nI 64 from rfl, pk_sub h64]
          have := wb_shl 1 (k := v - 64) (by omega)
          rw [Nat.one_mul] at this
          rw [show (1 : Int64) = lN 1 from rfl, this]
          exact wb_or h2 (Nat.pow_lt_pow_right (by decide) (by omega))
        rw [if_pos (show (64 : Int32) ≤ nI v from nI_le (a := 64) h64 (by omega)), e1, nI_1]
        refine ih (k + 1) u lo (hi ||| 2 ^ (v - 64)) (by omega) (by omega) h1 (or_lt h2 (by omega)) (fun w hw => ?_) (fun w hw => ?_) ?_
        · rw [es, h3 w hw, decide_eq_false (by omega), Bool.or_false]
        · rw [es, fb_bit_set, h4 w hw]
          congr 1
          exact decide_eq_decide.mpr (by omega)
        · have := h4 (v - 64) (by omega)
          rw [show v - 64 + 64 = v by omega] at this
          rw [pcB_or _ _ (by omega), this, ec]
          omega
      · have e1 : lN lo ||| ((1 : Int64) <<< ((nI v).toInt64 &&& 63)) = lN (lo ||| 2 ^ v) := by
          have := wb_shl 1 (k := v) (by omega)
          rw [Nat.one_mul] at this
          rw [show (1 : Int64) = lN 1 from rfl, this]
          exact wb_or h1 (Nat.pow_lt_pow_right (by decide) (by omega))
        rw [if_neg (show ¬ (64 : Int32) ≤ nI v from nI_ge (b := 64) (by omega) (by decide)), e1, nI_1]
        refine ih (k + 1) u (lo ||| 2 ^ v) hi (by omega) (by omega) (or_lt h1 (by omega)) h2 (fun w hw => ?_) (fun w hw => ?_) ?_
        · rw [es, fb_bit_set, h3 w hw]
          congr 1
          exact decide_eq_decide.mpr (by omega)
        · rw [es, h4 w hw, decide_eq_false (by omega), Bool.or_false]
        · rw [pcB_or _ _ (by omega), h3 v (by omega), ec]
          omega
    · have hmt : mtB A t k = false := decide_eq_false ht
      have es : ∀ w, snB A t (k + 1) w = snB A t k w := fun w => by rw [snB, hmt, Bool.false_and, Bool.or_false]
      rw [if_neg ht, nI_1]
      refine ih (k + 1) u lo hi (by omega) (by omega) h1 h2 (fun w hw => by rw [es]; exact h3 w hw) (fun w hw => by rw [es]; exact h4 w hw) ?_
      rw [ctA, hmt, Bool.false_and, if_neg (by decide)]
      exact h5
