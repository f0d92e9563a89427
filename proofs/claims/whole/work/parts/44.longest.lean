/-! LONGEST -/
def lgA (S : Nat → Nat) : Nat → Nat → Nat → Nat → Nat
  | 0, most, _, _ => most
  | m + 1, most, row, k => if 0 < k ∧ S k = S (k - 1) then lgA S m (max most (row + 1)) (row + 1) (k + 1) else lgA S m (max most 1) 1 (k + 1)
theorem told4 {A : Ab} {ns nb : Nat} {σ : Sg} (hC : cSg A σ) (h250 : A 3 0 1 ≤ 250) {k w : Nat} (hk : k < A 3 0 1) (hw : w < 4) : FX2_told ns nb σ (nI k) (nI w) = some (nI (A 4 0 (4 * k + w)), σ) := by
  have e4 : nI k * 4 + nI w = nI (4 * k + w) := by rw [show (4 : Int32) = nI 4 from rfl, pk_mul, nI_add, Nat.mul_comm]
  unfold FX2_told
  rw [e4, at4 (k := 4) (N := 1000) rfl (by decide) (by omega), Option.bind_some, hC.2.2 _ (by omega)]
theorem neg1_ne (n : Nat) (h : n < 2 ^ 31) : ¬ nI n = -1 := by
  intro q
  have := congrArg Int32.toInt q
  rw [nI_toInt h, show (-1 : Int32).toInt = -1 by decide] at this
  omega
theorem long4 {A : Ab} {ns nb : Nat} {σ : Sg} (hC : cSg A σ) (h250 : A 3 0 1 ≤ 250) (hs : ∀ j, j < A 3 0 1 → A 4 0 (4 * j + 1) < 8) : ∀ (m k most row fuel : Nat), k + m = A 3 0 1 → most ≤ k → row ≤ k → m < fuel → LX4_longest_9 ns nb fuel (nI most) (nI row) (if k = 0 then -1 else nI (A 4 0 (4 * (k - 1) + 1))) (nI k) σ = some (nI (lgA (fun j => A 4 0 (4 * j + 1)) m most row k), σ) := by
  intro m
  induction m with
  | zero =>
    intro k most row fuel hk h1 h2 hf
    obtain ⟨n, rfl⟩ : ∃ n, fuel = n + 1 := ⟨fuel - 1, by omega⟩
    rw [LX4_longest_9, hC.1, if_pos (nI_le (by omega) (by omega))]
    rfl
  | succ m ih =>
    intro k most row fuel hk h1 h2 hf
    obtain ⟨n, rfl⟩ : ∃ n, fuel = n + 1 := ⟨fuel - 1, by omega⟩
    have ht : FX2_told ns nb σ (nI k) 1 = some (nI (A 4 0 (4 * k + 1)), σ) := told4 hC h250 (w := 1) (by omega) (by decide)
    have s1 := hs k (by omega)
    have ek : (if k + 1 = 0 then (-1 : Int32) else nI (A 4 0 (4 * (k + 1 - 1) + 1))) = nI (A 4 0 (4 * k + 1)) := by rw [if_neg (by omega), Nat.add_sub_cancel]
    rw [LX4_longest_9, hC.1, if_neg (nI_ge (by omega) (by omega)), ht, Option.bind_some]
    (try dsimp only)
    rw [lgA]
    by_cases hc : 0 < k ∧ A 4 0 (4 * k + 1) = A 4 0 (4 * (k - 1) + 1)
    · rw [if_pos hc, if_neg (show ¬ k = 0 by omega), if_pos (congrArg nI hc.2), nI_1, nI_1, mx_nI (by omega) (by omega), ← ek]
      exact ih (k + 1) _ _ n (by omega) (by omega) (by omega) (by omega)
    · have hne : ¬ nI (A 4 0 (4 * k + 1)) = (if k = 0 then (-1 : Int32) else nI (A 4 0 (4 * (k - 1) + 1))) := by
        by_cases h0 : k = 0
        · rw [if_pos h0]; exact neg1_ne _ (by omega)
        · have s2 := hs (k - 1) (by omega)
          rw [if_neg h0, nI_eq (by omega) (by omega)]
          exact fun q => hc ⟨by omega, q⟩
      rw [if_neg hc, if_neg hne, nI_1, show mxI (nI most) 1 = nI (max most 1) from mx_nI (by omega) (by decide), ← ek]
      exact ih (k + 1) _ 1 n (by omega) (by omega) (by omega) (by omega)
theorem long5 {A : Ab} {ns nb : Nat} {τ : Sg} (hM : mSg A τ) (h250 : A 3 0 1 ≤ 250) (hs : ∀ j, j < A 3 0 1 → A 4 0 (4 * j + 1) < 8) : ∀ (m k most row fuel : Nat), k + m = A 3 0 1 → most ≤ k → row ≤ k → m < fuel → LX5_longest_11 ns nb fuel (nI most) (nI row) (nI k) τ = some (nI (lgA (fun j => A 4 0 (4 * j + 1)) m most row k), τ) := by
  intro m
  induction m with
  | zero =>
    intro k most row fuel hk h1 h2 hf
    obtain ⟨n, rfl⟩ : ∃ n, fuel = n + 1 := ⟨fuel - 1, by omega⟩
    rw [LX5_longest_11, hM.1, if_pos (nI_le (by omega) (by omega))]
    rfl
  | succ m ih =>
    intro k most row fuel hk h1 h2 hf
    obtain ⟨n, rfl⟩ : ∃ n, fuel = n + 1 := ⟨fuel - 1, by omega⟩
    have s1 := hs k (by omega)
    rw [LX5_longest_11, hM.1, if_neg (nI_ge (by omega) (by omega))]
    (try dsimp only)
    rw [lgA]
    by_cases h0 : k = 0
    · rw [if_pos (show nI k ≤ 0 by rw [h0]; decide), if_neg (show ¬ (0 < k ∧ A 4 0 (4 * k + 1) = A 4 0 (4 * (k - 1) + 1)) by omega), nI_1, show mxI (nI most) 1 = nI (max most 1) from mx_nI (by omega) (by decide)]
      exact ih (k + 1) _ 1 n (by omega) (by omega) (by omega) (by omega)
    · have s2 := hs (k - 1) (by omega)
      have e1 : 4 * nI k + 1 = nI (4 * k + 1) := by rw [show (4 : Int32) = nI 4 from rfl, show (1 : Int32) = nI 1 from rfl, pk_mul, nI_add]
      have e3 : 4 * nI k - 3 = nI (4 * (k - 1) + 1) := by
        rw [show (4 : Int32) = nI 4 from rfl, show (3 : Int32) = nI 3 from rfl, pk_mul, pk_sub (by omega)]
        congr 1
        omega
      rw [if_neg (nI_nle (by omega) (by omega)), e1, e3, if_neg (nI_in (by omega) (by decide)), if_neg (nI_in (by omega) (by decide)), nI_clamp (by omega), nI_clamp (by omega), hM.2.2 _ (by omega), hM.2.2 _ (by omega)]
      by_cases hc : 0 < k ∧ A 4 0 (4 * k + 1) = A 4 0 (4 * (k - 1) + 1)
      · rw [if_pos hc, if_pos (congrArg nI hc.2), nI_1, nI_1, mx_nI (by omega) (by omega)]
        exact ih (k + 1) _ _ n (by omega) (by omega) (by omega) (by omega)
      · rw [if_neg hc, if_neg (fun q => hc ⟨by omega, (nI_eq (by omega) (by omega)).mp q⟩), nI_1, show mxI (nI most) 1 = nI (max most 1) from mx_nI (by omega) (by decide)]
        exact ih (k + 1) _ 1 n (by omega) (by omega) (by omega) (by omega)
theorem longest_ok (T ns nb : Nat) (σ : Sg) (h : Inv T ns nb σ) : ∃ (r : Int32) (σ1 σ2 : Sg), FX4_longest ns nb σ = some (r, σ1) ∧ FX5_longest ns nb σ1 = some (r, σ2) ∧ Inv (T + 1) ns nb σ2 := by
  obtain ⟨r, q, σ1, σ2, e1, e2, rfl, -, e3⟩ := both (T' := T + 1) (ns' := ns) (nb' := nb) (P := fun r q => r = q) (FC := fun σ => FX4_longest ns nb σ) (FM := fun τ => FX5_longest ns nb τ) h (fun A hC hW => by
    obtain ⟨h250, hb⟩ := hW.2.2.2.2.2.2.2.2.1
    have hs : ∀ j, j < A 3 0 1 → A 4 0 (4 * j + 1) < 8 := fun j hj => by have := (hb j hj).1; have := hW.2.1; omega
    have r4 : LX4_longest_9 ns nb 4100 0 0 (-1) 0 σ = _ := long4 (ns := ns) (nb := nb) hC.2.2.2.2.2.1 h250 hs (A 3 0 1) 0 0 0 4100 (by omega) (by omega) (by omega) (by omega)
    refine ⟨nI (lgA (fun j => A 4 0 (4 * j + 1)) (A 3 0 1) 0 0 0), σ, A, ?_, frC.rf, hC, hW.up (by omega), fun τ hM => ⟨nI (lgA (fun j => A 4 0 (4 * j + 1)) (A 3 0 1) 0 0 0), sI τ 20 0 0 0, ?_, frM_I (by decide) (by decide), hM.thr 0, rfl⟩⟩
    · show FX4_longest ns nb σ = _
      unfold FX4_longest
      rw [r4]
      rfl
    · have r5 : LX5_longest_11 ns nb 4100 0 0 0 (sI τ 20 0 0 0) = _ := long5 (ns := ns) (nb := nb) (hM.thr 0).2.2.2.2.2.1 h250 hs (A 3 0 1) 0 0 0 4100 (by omega) (by omega) (by omega) (by omega)
      show FX5_longest ns nb τ = _
      unfold FX5_longest
      rw [r5]
      rfl)
  exact ⟨r, σ1, σ2, e1, e2, e3⟩
