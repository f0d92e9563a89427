/-! THE COMPONENT'S SPAN: marks alone are wanted -/
theorem hasP {ns nb k x : Nat} {σ : Sg} {P : Nat → Nat} (hm : ∀ x, x < 96 → σ.1 11 k x = if P x = 0 then 0 else 1) (hx : x < 96) : FX1_hasPoint ns nb σ k (nI x) = some (if P x = 0 then 0 else 1, σ) := by
  unfold FX1_hasPoint
  rw [at4 (k := 11) (N := 96) rfl (by decide) hx, Option.bind_some]
  dsimp only
  rw [hm x hx]
  by_cases h : P x = 0
  · rw [if_pos h, if_neg (show ¬ (0 : Int32) = 1 by decide)]
  · rw [if_neg h, if_pos rfl]
theorem rem4 {ns nb a n : Nat} {σ : Sg} (ha : a < 2 ^ 31) (hn : 0 < n) (hn2 : n < 2 ^ 31) : FX4_remainder ns nb σ (nI a) (nI n) = some (nI (a % n), σ) := by
  unfold FX4_remainder
  rw [if_neg (nI_nle hn hn2), if_neg (nI_ne0 hn hn2), pk_rem ha hn hn2]
/-- the span is the steps on to a point, or the whole barrel -/
theorem span4 {ns nb k n x : Nat} {σ : Sg} {P : Nat → Nat} (hm : ∀ x, x < 96 → σ.1 11 k x = if P x = 0 then 0 else 1) (hn : 0 < n) (hn2 : n ≤ 96) (hx : x < n) : ∀ (m d fuel : Nat), d + m = n → m < fuel → LX1_drawBehind_2 ns nb k (nI x) (nI n) fuel (nI d) σ = some (nI (ahA P n x m d), σ) := by
  intro m
  induction m with
  | zero =>
    intro d fuel hd hf
    obtain ⟨u, rfl⟩ : ∃ u, fuel = u + 1 := ⟨fuel - 1, by omega⟩
    rw [LX1_drawBehind_2, if_pos (nI_le (by omega) (by omega))]
    rfl
  | succ m ih =>
    intro d fuel hd hf
    obtain ⟨u, rfl⟩ : ∃ u, fuel = u + 1 := ⟨fuel - 1, by omega⟩
    have hmod : (x + d) % n < n := Nat.mod_lt _ hn
    rw [LX1_drawBehind_2, if_neg (nI_ge (by omega) (by omega)), nI_add, rem4 (by omega) hn (by omega), Option.bind_some]
    dsimp only
    rw [hasP hm (by omega), Option.bind_some, ahA]
    dsimp only
    by_cases hz : P ((x + d) % n) = 0
    · rw [if_pos hz, if_pos rfl, if_pos hz, nI_1]
      exact ih (d + 1) u (by omega) (by omega)
    · rw [if_neg hz, if_neg n10, if_neg hz]
