/-! THE NUMBER OF BITS, BY BYTES -/
theorem and_cut (a m : Nat) : a &&& m = (a % 256 &&& m % 256) + 256 * (a / 256 &&& m / 256) := by
  have h1 : (a &&& m) % 2 ^ 8 = (a % 2 ^ 8) &&& (m % 2 ^ 8) := Nat.and_mod_two_pow
  have h2 : (a &&& m) / 2 ^ 8 = (a / 2 ^ 8) &&& (m / 2 ^ 8) := Nat.and_div_two_pow
  have h3 := Nat.mod_add_div (a &&& m) (2 ^ 8)
  rw [h1, h2] at h3
  exact h3.symm
theorem by1 : ∀ b : Fin 256, ∀ e : Fin 2, ((b.val / 2 + 128 * e.val) &&& 0x55) = ((b.val / 2) &&& 0x55) ∧ ((b.val / 2) &&& 0x55) ≤ b.val := by decide +kernel
theorem by2 : ∀ c : Fin 256, ∀ e : Fin 4, ((c.val / 4 + 64 * e.val) &&& 0x33) = ((c.val / 4) &&& 0x33) := by decide +kernel
def p1 (b : Nat) : Nat := b - ((b / 2) &&& 0x55)
def p2 (b : Nat) : Nat := (p1 b &&& 0x33) + ((p1 b / 4) &&& 0x33)
def p3 (b : Nat) : Nat := (p2 b + p2 b / 16) &&& 0x0f
def pc8 (b : Nat) : Nat := b % 2 + b / 2 % 2 + b / 4 % 2 + b / 8 % 2 + b / 16 % 2 + b / 32 % 2 + b / 64 % 2 + b / 128 % 2
theorem by3 : ∀ b : Fin 256, p1 b.val < 256 ∧ p2 b.val % 16 ≤ 4 ∧ p2 b.val / 16 ≤ 4 ∧ p3 b.val = pc8 b.val ∧ pc8 b.val ≤ 8 := by decide +kernel
theorem by4 : ∀ d : Fin 5, ∀ u : Fin 5, ∀ e : Fin 5, ((d.val * 16 + u.val + d.val + 16 * e.val) &&& 0x0f) = ((d.val * 16 + u.val + d.val) &&& 0x0f) := by decide +kernel
def mk (v : Nat) : Nat → Nat
  | 0 => 0
  | n + 1 => v + 256 * mk v n
def q1 (n x : Nat) : Nat := x - ((x / 2) &&& mk 0x55 n)
def q2 (n x : Nat) : Nat := (q1 n x &&& mk 0x33 n) + ((q1 n x / 4) &&& mk 0x33 n)
def q3 (n x : Nat) : Nat := (q2 n x + q2 n x / 16) &&& mk 0x0f n
theorem mk_s (v n : Nat) (hv : v < 256) : mk v (n + 1) % 256 = v ∧ mk v (n + 1) / 256 = mk v n := by
  have e : mk v (n + 1) = v + 256 * mk v n := rfl
  rw [e]
  omega
theorem q1_s (n b y : Nat) (hb : b < 256) : q1 (n + 1) (b + 256 * y) = p1 b + 256 * q1 n y := by
  obtain ⟨m1, m2⟩ := mk_s 0x55 n (by decide)
  have h := by1 ⟨b, hb⟩ ⟨y % 2, by omega⟩
  dsimp only at h
  unfold q1 p1
  rw [and_cut, m1, m2, show (b + 256 * y) / 2 % 256 = b / 2 + 128 * (y % 2) by omega, show (b + 256 * y) / 2 / 256 = y / 2 by omega, h.1]
  have h2 : (y / 2 &&& mk 85 n) ≤ y / 2 := Nat.and_le_left
  have h3 := h.2
  omega
theorem q2_s (n b y : Nat) (hb : b < 256) : q2 (n + 1) (b + 256 * y) = p2 b + 256 * q2 n y := by
  obtain ⟨m1, m2⟩ := mk_s 0x33 n (by decide)
  have hp := (by3 ⟨b, hb⟩).1
  dsimp only at hp
  have h := by2 ⟨p1 b, hp⟩ ⟨q1 n y % 4, by omega⟩
  dsimp only at h
  unfold q2
  rw [q1_s n b y hb, and_cut (p1 b + 256 * q1 n y), and_cut ((p1 b + 256 * q1 n y) / 4), m1, m2, show (p1 b + 256 * q1 n y) % 256 = p1 b by omega, show (p1 b + 256 * q1 n y) / 256 = q1 n y by omega, show (p1 b + 256 * q1 n y) / 4 % 256 = p1 b / 4 + 64 * (q1 n y % 4) by omega, show (p1 b + 256 * q1 n y) / 4 / 256 = q1 n y / 4 by omega, h]
  unfold p2
  omega
theorem q2_low (n y : Nat) : q2 n y % 16 ≤ 4 := by
  cases n with
  | zero => unfold q2 mk; simp
  | succ n =>
    have e : y = y % 256 + 256 * (y / 256) := by omega
    rw [e, q2_s n (y % 256) (y / 256) (by omega)]
    have := (by3 ⟨y % 256, by omega⟩).2.1
    dsimp only at this
    omega
theorem q3_s (n b y : Nat) (hb : b < 256) : q3 (n + 1) (b + 256 * y) = pc8 b + 256 * q3 n y := by
  obtain ⟨m1, m2⟩ := mk_s 0x0f n (by decide)
  obtain ⟨-, h2, h3, h4, -⟩ := by3 ⟨b, hb⟩
  dsimp only at h2 h3 h4
  have hl := q2_low n y
  have h := by4 ⟨p2 b / 16, by omega⟩ ⟨p2 b % 16, by omega⟩ ⟨q2 n y % 16, by omega⟩
  dsimp only at h
  unfold q3
  rw [q2_s n b y hb, and_cut, m1, m2, show (p2 b + 256 * q2 n y + (p2 b + 256 * q2 n y) / 16) % 256 = p2 b / 16 * 16 + p2 b % 16 + p2 b / 16 + 16 * (q2 n y % 16) by omega, show (p2 b + 256 * q2 n y + (p2 b + 256 * q2 n y) / 16) / 256 = q2 n y + q2 n y / 16 by omega, h, ← h4]
  unfold p3
  rw [show p2 b / 16 * 16 + p2 b % 16 + p2 b / 16 = p2 b + p2 b / 16 by omega]
def by_ (x i : Nat) : Nat := x / 256 ^ i % 256
def pcB (x : Nat) : Nat := pc8 (by_ x 0) + pc8 (by_ x 1) + pc8 (by_ x 2) + pc8 (by_ x 3) + pc8 (by_ x 4) + pc8 (by_ x 5) + pc8 (by_ x 6) + pc8 (by_ x 7)
theorem q3_8 (x : Nat) (hx : x < 2 ^ 64) : q3 8 x = pc8 (by_ x 0) + 256 * (pc8 (by_ x 1) + 256 * (pc8 (by_ x 2) + 256 * (pc8 (by_ x 3) + 256 * (pc8 (by_ x 4) + 256 * (pc8 (by_ x 5) + 256 * (pc8 (by_ x 6) + 256 * pc8 (by_ x 7))))))) := by
  have st : ∀ n y, q3 (n + 1) y = pc8 (y % 256) + 256 * q3 n (y / 256) := by
    intro n y
    have e : y = y % 256 + 256 * (y / 256) := by omega
    have := q3_s n (y % 256) (y / 256) (by omega)
    rw [← e] at this
    exact this
  have z : ∀ y, q3 0 y = 0 := by intro y; unfold q3 mk; simp
  rw [st, st, st, st, st, st, st, st, z]
  unfold by_
  simp only [Nat.div_div_eq_div_mul, Nat.pow_zero, Nat.div_one, Nat.mul_zero, Nat.add_zero]
theorem pop_nat (x : Nat) (hx : x < 2 ^ 64) : ∀ s3, s3 = q3 8 x → ∀ s4, s4 = s3 + s3 / 256 → ∀ s5, s5 = s4 + s4 / 65536 → ∀ s6, s6 = s5 + s5 / 4294967296 → s6 % 128 = pcB x := by
  intro s3 h3 s4 h4 s5 h5 s6 h6
  rw [q3_8 x hx] at h3
  have b : ∀ i, pc8 (by_ x i) ≤ 8 := fun i => (by3 ⟨by_ x i, Nat.mod_lt _ (by decide)⟩).2.2.2.2
  have b0 := b 0
  have b1 := b 1
  have b2 := b 2
  have b3 := b 3
  have b4 := b 4
  have b5 := b 5
  have b6 := b 6
  have b7 := b 7
  unfold pcB
  generalize pc8 (by_ x 0) = c0 at *
  generalize pc8 (by_ x 1) = c1 at *
  generalize pc8 (by_ x 2) = c2 at *
  generalize pc8 (by_ x 3) = c3 at *
  generalize pc8 (by_ x 4) = c4 at *
  generalize pc8 (by_ x 5) = c5 at *
  generalize pc8 (by_ x 6) = c6 at *
  generalize pc8 (by_ x 7) = c7 at *
  have a1 : s3 / 256 = c1 + 256 * (c2 + 256 * (c3 + 256 * (c4 + 256 * (c5 + 256 * (c6 + 256 * (c7)))))) := by omega
  have a2 : s4 = (c0 + c1) + 256 * ((c1 + c2) + 256 * ((c2 + c3) + 256 * ((c3 + c4) + 256 * ((c4 + c5) + 256 * ((c5 + c6) + 256 * ((c6 + c7) + 256 * (c7))))))) := by omega
  clear h4 h3 a1
  have a3 : s4 / 65536 = (c2 + c3) + 256 * ((c3 + c4) + 256 * ((c4 + c5) + 256 * ((c5 + c6) + 256 * ((c6 + c7) + 256 * (c7))))) := by omega
  have a4 : s5 = ((c0 + c1) + (c2 + c3)) + 256 * (((c1 + c2) + (c3 + c4)) + 256 * (((c2 + c3) + (c4 + c5)) + 256 * (((c3 + c4) + (c5 + c6)) + 256 * (((c4 + c5) + (c6 + c7)) + 256 * (((c5 + c6) + c7) + 256 * ((c6 + c7) + 256 * (c7))))))) := by omega
  clear h5 a2 a3
  have a5 : s5 / 4294967296 = ((c4 + c5) + (c6 + c7)) + 256 * (((c5 + c6) + c7) + 256 * ((c6 + c7) + 256 * (c7))) := by omega
  omega
