theorem behind4 {ns nb k n x : Nat} {σ : Sg} {P : Nat → Nat} (hm : ∀ x, x < 96 → σ.1 11 k x = if P x = 0 then 0 else 1) (hn : 0 < n) (hn2 : n ≤ 96) (hx : x < n) (hF : 0 ≤ (σ.1 12 k x).toInt ∧ (σ.1 12 k x).toInt ≤ 100) (hG : 0 ≤ (σ.1 12 k ((x + ahA P n x (n - 1) 1) % n)).toInt ∧ (σ.1 12 k ((x + ahA P n x (n - 1) 1) % n)).toInt ≤ 100) :
    ∃ σ' : Sg, FX1_drawBehind ns nb σ k (nI x) (nI n) = some σ' ∧ σ'.2 = σ.2 ∧ (∀ k' j' f', ¬ (k' = 12 ∧ j' = k) → σ'.1 k' j' f' = σ.1 k' j' f') ∧ (∀ j, 1 ≤ j → j < ahA P n x (n - 1) 1 → (σ'.1 12 k ((x + j) % n)).toInt = (σ.1 12 k x).toInt + (((σ.1 12 k ((x + ahA P n x (n - 1) 1) % n)).toInt - (σ.1 12 k x).toInt) * (j : Int)).fdiv (ahA P n x (n - 1) 1 : Int)) ∧ ∀ y, (∀ j, 1 ≤ j → j < ahA P n x (n - 1) 1 → y ≠ (x + j) % n) → σ'.1 12 k y = σ.1 12 k y := by
  obtain ⟨a1, a2⟩ := ah_le (P := P) (n := n) (x := x) (n - 1) 1
  have hsp := span4 (ns := ns) (nb := nb) (σ := σ) hm hn hn2 hx (n - 1) 1 4100 (by omega) (by omega)
  obtain ⟨D, eD⟩ : ∃ D, D = ahA P n x (n - 1) 1 := ⟨_, rfl⟩
  rw [← eD] at hG a1 a2 hsp ⊢
  have hmod : (x + D) % n < n := Nat.mod_lt _ hn
  have hR : (σ.1 12 k ((x + D) % n) - σ.1 12 k x).toInt = (σ.1 12 k ((x + D) % n)).toInt - (σ.1 12 k x).toInt := by
    rw [fb_subI] <;> omega
  obtain ⟨σ', r1, r2, r3, r4, r5⟩ := fill4 (ns := ns) (nb := nb) (k := k) (n := n) (x := x) (D := D) (F := σ.1 12 k x) (R := σ.1 12 k ((x + D) % n) - σ.1 12 k x) hn hn2 hx (by omega) (by omega) (by omega) (by rw [hR]; omega) (D - 1) 1 4100 σ (by omega) (by omega)
  refine ⟨σ', ?_, r2, r3, fun j h1 h2 => by rw [r4 j h1 h2, hR], r5⟩
  unfold FX1_drawBehind
  rw [show LX1_drawBehind_2 ns nb k (nI x) (nI n) 4100 1 σ = _ from hsp, Option.bind_some]
  dsimp only
  rw [at4 (k := 12) (N := 96) rfl (by decide) (by omega), Option.bind_some]
  dsimp only
  rw [nI_add, rem4 (by omega) hn (by omega), Option.bind_some]
  dsimp only
  rw [at4 (k := 12) (N := 96) rfl (by decide) (by omega), Option.bind_some]
  dsimp only
  rw [show LX1_drawBehind_59 ns nb k (nI x) (nI n) (nI D) (σ.1 12 k x) (σ.1 12 k ((x + D) % n) - σ.1 12 k x) 4100 1 σ = _ from r1]
  rfl
