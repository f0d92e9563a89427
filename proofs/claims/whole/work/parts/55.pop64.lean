theorem mk55 : mk 0x55 8 = 6148914691236517205 := by decide +kernel
theorem mk33 : mk 0x33 8 = 3689348814741910323 := by decide +kernel
theorem mk0f : mk 0x0f 8 = 1085102592571150095 := by decide +kernel
set_option maxRecDepth 4000 in
theorem pop64 {ns nb x : Nat} {σ : Sg} (hx : x < 2 ^ 64) : FJ13_bitCount_95d88 ns nb σ (lN x) = some (nI (pcB x), σ) := by
  have sh : ∀ (k : Nat) (n : Nat), n < 2 ^ 64 → k < 64 → ((lN n).toUInt64 >>> ((nI k).toInt64.toUInt64 &&& Int64.toUInt64 63)).toInt64 = lN (n / 2 ^ k) := fun k n h1 h2 => wb_shr h1 h2
  have e1 : ((lN x).toUInt64 >>> ((1 : Int32).toInt64.toUInt64 &&& Int64.toUInt64 63)).toInt64 = lN (x / 2) := sh 1 x hx (by decide)
  have e2 : lN (x / 2) &&& 6148914691236517205 = lN (x / 2 &&& mk 0x55 8) := by
    rw [mk55]; exact wb_and (by omega) (by decide)
  have l1 : (x / 2 &&& mk 0x55 8) ≤ x / 2 := Nat.and_le_left
  have e3 : lN x - lN (x / 2 &&& mk 0x55 8) = lN (q1 8 x) := lN_sub (by omega)
  have b1 : q1 8 x < 2 ^ 64 := by unfold q1; omega
  have e4 : lN (q1 8 x) &&& 3689348814741910323 = lN (q1 8 x &&& mk 0x33 8) := by
    rw [mk33]; exact wb_and b1 (by decide)
  have e5 : ((lN (q1 8 x)).toUInt64 >>> ((2 : Int32).toInt64.toUInt64 &&& Int64.toUInt64 63)).toInt64 = lN (q1 8 x / 4) := sh 2 _ b1 (by decide)
  have e6 : lN (q1 8 x / 4) &&& 3689348814741910323 = lN (q1 8 x / 4 &&& mk 0x33 8) := by
    rw [mk33]; exact wb_and (by omega) (by decide)
  have e7 : lN (q1 8 x &&& mk 0x33 8) + lN (q1 8 x / 4 &&& mk 0x33 8) = lN (q2 8 x) := lN_add _ _
  have l2 : (q1 8 x &&& mk 0x33 8) ≤ mk 0x33 8 := Nat.and_le_right
  have l3 : (q1 8 x / 4 &&& mk 0x33 8) ≤ mk 0x33 8 := Nat.and_le_right
  rw [mk33] at l2 l3
  have b2 : q2 8 x ≤ 7378697629483820646 := by unfold q2; rw [mk33]; omega
  have e8 : ((lN (q2 8 x)).toUInt64 >>> ((4 : Int32).toInt64.toUInt64 &&& Int64.toUInt64 63)).toInt64 = lN (q2 8 x / 16) := sh 4 _ (by omega) (by decide)
  have e9 : lN (q2 8 x) + lN (q2 8 x / 16) = lN (q2 8 x + q2 8 x / 16) := lN_add _ _
  have e10 : lN (q2 8 x + q2 8 x / 16) &&& 1085102592571150095 = lN (q3 8 x) := by
    have := wb_and (a := q2 8 x + q2 8 x / 16) (b := mk 0x0f 8) (by omega) (by rw [mk0f]; decide)
    rw [mk0f] at this
    refine this.trans ?_
    unfold q3
    rw [mk0f]
  have b3 : q3 8 x ≤ 1085102592571150095 := by unfold q3; rw [mk0f]; exact Nat.and_le_right
  obtain ⟨s3, h3⟩ : ∃ s3, s3 = q3 8 x := ⟨_, rfl⟩
  rw [← h3] at e10 b3
  obtain ⟨s4, h4⟩ : ∃ s4, s4 = s3 + s3 / 256 := ⟨_, rfl⟩
  obtain ⟨s5, h5⟩ : ∃ s5, s5 = s4 + s4 / 65536 := ⟨_, rfl⟩
  obtain ⟨s6, h6⟩ : ∃ s6, s6 = s5 + s5 / 4294967296 := ⟨_, rfl⟩
  have e11 : ((lN s3).toUInt64 >>> ((8 : Int32).toInt64.toUInt64 &&& Int64.toUInt64 63)).toInt64 = lN (s3 / 256) := sh 8 _ (by omega) (by decide)
  have e12 : lN s3 + lN (s3 / 256) = lN s4 := by rw [h4]; exact lN_add _ _
  have e13 : ((lN s4).toUInt64 >>> ((16 : Int32).toInt64.toUInt64 &&& Int64.toUInt64 63)).toInt64 = lN (s4 / 65536) := sh 16 _ (by omega) (by decide)
  have e14 : lN s4 + lN (s4 / 65536) = lN s5 := by rw [h5]; exact lN_add _ _
  have e15 : ((lN s5).toUInt64 >>> ((32 : Int32).toInt64.toUInt64 &&& Int64.toUInt64 63)).toInt64 = lN (s5 / 4294967296) := sh 32 _ (by omega) (by decide)
  have e16 : lN s5 + lN (s5 / 4294967296) = lN s6 := by rw [h6]; exact lN_add _ _
  have e17 : (lN s6).toInt32 &&& 127 = nI (pcB x) := by
    rw [lN_i, ← pop_nat x hx s3 h3 s4 h4 s5 h5 s6 h6]
    exact fa_mask s6 7
  unfold FJ13_bitCount_95d88
  rw [e1, e2, e3, e4, e5, e6, e7, e8, e9, e10, e11, e12, e13, e14, e15, e16, e17]
/-- one bit more -/
theorem pc8_or : ∀ b : Fin 256, ∀ j : Fin 8, pc8 (b.val ||| 2 ^ j.val) = pc8 b.val + (1 - b.val / 2 ^ j.val % 2) := by decide +kernel
