theorem tw : ∀ j : Fin 64, ∀ i : Fin 8, 2 ^ j.val / 2 ^ (8 * i.val) % 2 ^ 8 = if i.val = j.val / 8 then 2 ^ (j.val % 8) else 0 := by decide +kernel
theorem by_2 (x i : Nat) : by_ x i = x / 2 ^ (8 * i) % 2 ^ 8 := by
  unfold by_
  rw [Nat.pow_mul]
theorem by_or (x j i : Nat) (hj : j < 64) (hi : i < 8) : by_ (x ||| 2 ^ j) i = by_ x i ||| (if i = j / 8 then 2 ^ (j % 8) else 0) := by
  have h := tw ⟨j, hj⟩ ⟨i, hi⟩
  dsimp only at h
  rw [by_2, by_2, Nat.or_div_two_pow, Nat.or_mod_two_pow, h]
theorem by_bit (x j : Nat) : by_ x (j / 8) / 2 ^ (j % 8) % 2 = if x.testBit j then 1 else 0 := by
  have h : (by_ x (j / 8)).testBit (j % 8) = x.testBit j := by
    rw [by_2, Nat.testBit_mod_two_pow, Nat.testBit_div_two_pow, show j % 8 + 8 * (j / 8) = j by omega]
    simp
    intro _
    omega
  rw [Nat.testBit_eq_decide_div_mod_eq] at h
  by_cases c : x.testBit j = true
  · rw [c] at h ⊢
    exact of_decide_eq_true h
  · have c2 : x.testBit j = false := by simpa using c
    rw [c2] at h ⊢
    have := of_decide_eq_false h
    simp
    omega
theorem pcB_or (x j : Nat) (hj : j < 64) : pcB (x ||| 2 ^ j) = pcB x + (if x.testBit j then 0 else 1) := by
  have hb := by_bit x j
  have h8 : ∀ i, pc8 (by_ x i ||| 2 ^ (j % 8)) = pc8 (by_ x i) + (1 - by_ x i / 2 ^ (j % 8) % 2) := fun i => pc8_or ⟨by_ x i, Nat.mod_lt _ (by decide)⟩ ⟨j % 8, by omega⟩
  have hk : pc8 (by_ x (j / 8) ||| 2 ^ (j % 8)) = pc8 (by_ x (j / 8)) + (if x.testBit j then 0 else 1) := by
    rw [h8, hb]
    by_cases c : x.testBit j = true
    · rw [if_pos c, if_pos c]
    · rw [if_neg c, if_neg c]
  unfold pcB
  rw [by_or x j 0 hj (by decide), by_or x j 1 hj (by decide), by_or x j 2 hj (by decide), by_or x j 3 hj (by decide), by_or x j 4 hj (by decide), by_or x j 5 hj (by decide), by_or x j 6 hj (by decide), by_or x j 7 hj (by decide)]
  rcases (show j / 8 = 0 ∨ j / 8 = 1 ∨ j / 8 = 2 ∨ j / 8 = 3 ∨ j / 8 = 4 ∨ j / 8 = 5 ∨ j / 8 = 6 ∨ j / 8 = 7 by omega) with q | q | q | q | q | q | q | q <;> rw [q] at hk ⊢ <;> simp only [if_true, Nat.or_zero, hk, show ¬ ((0 : Nat) = 1) by decide, show ¬ ((0 : Nat) = 2) by decide, show ¬ ((0 : Nat) = 3) by decide, show ¬ ((0 : Nat) = 4) by decide, show ¬ ((0 : Nat) = 5) by decide, show ¬ ((0 : Nat) = 6) by decide, show ¬ ((0 : Nat) = 7) by decide, show ¬ ((1 : Nat) = 0) by decide, show ¬ ((1 : Nat) = 2) by decide, show ¬ ((1 : Nat) = 3) by decide, show ¬ ((1 : Nat) = 4) by decide, show ¬ ((1 : Nat) = 5) by decide, show ¬ ((1 : Nat) = 6) by decide, show ¬ ((1 : Nat) = 7) by decide, show ¬ ((2 : Nat) = 0) by decide, show ¬ ((2 : Nat) = 1) by decide, show ¬ ((2 : Nat) = 3) by decide, show ¬ ((2 : Nat) = 4) by decide, show ¬ ((2 : Nat) = 5) by decide, show ¬ ((2 : Nat) = 6) by decide, show ¬ ((2 : Nat) = 7) by decide, show ¬ ((3 : Nat) = 0) by decide, show ¬ ((3 : Nat) = 1) by decide, show ¬ ((3 : Nat) = 2) by decide, show ¬ ((3 : Nat) = 4) by decide, show ¬ ((3 : Nat) = 5) by decide, show ¬ ((3 : Nat) = 6) by decide, show ¬ ((3 : Nat) = 7) by decide, show ¬ ((4 : Nat) = 0) by decide, show ¬ ((4 : Nat) = 1) by decide, show ¬ ((4 : Nat) = 2) by decide, show ¬ ((4 : Nat) = 3) by decide, show ¬ ((4 : Nat) = 5) by decide, show ¬ ((4 : Nat) = 6) by decide, show ¬ ((4 : Nat) = 7) by decide, show ¬ ((5 : Nat) = 0) by decide, show ¬ ((5 : Nat) = 1) by decide, show ¬ ((5 : Nat) = 2) by decide, show ¬ ((5 : Nat) = 3) by decide, show ¬ ((5 : Nat) = 4) by decide, show ¬ ((5 : Nat) = 6) by decide, show ¬ ((5 : Nat) = 7) by decide, show ¬ ((6 : Nat) = 0) by decide, show ¬ ((6 : Nat) = 1) by decide, show ¬ ((6 : Nat) = 2) by decide, show ¬ ((6 : Nat) = 3) by decide, show ¬ ((6 : Nat) = 4) by decide, show ¬ ((6 : Nat) = 5) by decide, show ¬ ((6 : Nat) = 7) by decide, show ¬ ((7 : Nat) = 0) by decide, show ¬ ((7 : Nat) = 1) by decide, show ¬ ((7 : Nat) = 2) by decide, show ¬ ((7 : Nat) = 3) by decide, show ¬ ((7 : Nat) = 4) by decide, show ¬ ((7 : Nat) = 5) by decide, show ¬ ((7 : Nat) = 6) by decide, if_false] <;> omega
