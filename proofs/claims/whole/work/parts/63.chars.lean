/-! WHAT bkA AND ahA ARE -/
theorem bk_char {P : Nat → Nat} {n x j : Nat} (hz : P ((x + n - j) % n) ≠ 0) : ∀ (m d : Nat), d ≤ j → j < d + m → (∀ i, d ≤ i → i < j → P ((x + n - i) % n) = 0) → bkA P n x m d = j := by
  intro m
  induction m with
  | zero => intro d h1 h2 _; omega
  | succ m ih =>
    intro d h1 h2 hall
    rw [bkA]
    by_cases q : d = j
    · subst q
      rw [if_neg hz]
    · rw [if_pos (hall d (Nat.le_refl _) (by omega))]
      exact ih (d + 1) (by omega) (by omega) (fun i h1 h2 => hall i (by omega) h2)
theorem ah_char {P : Nat → Nat} {n x j : Nat} (hz : P ((x + j) % n) ≠ 0) : ∀ (m d : Nat), d ≤ j → j < d + m → (∀ i, d ≤ i → i < j → P ((x + i) % n) = 0) → ahA P n x m d = j := by
  intro m
  induction m with
  | zero => intro d h1 h2 _; omega
  | succ m ih =>
    intro d h1 h2 hall
    rw [ahA]
    by_cases q : d = j
    · subst q
      rw [if_neg hz]
    · rw [if_pos (hall d (Nat.le_refl _) (by omega))]
      exact ih (d + 1) (by omega) (by omega) (fun i h1 h2 => hall i (by omega) h2)
