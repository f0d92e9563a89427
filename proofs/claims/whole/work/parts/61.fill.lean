/-! THE COMPONENT'S LINE BEHIND A POINT -/
theorem mod_ne {x i j n : Nat} (h1 : i < j) (h2 : j < i + n) : (x + i) % n ≠ (x + j) % n := by
  intro q
  have h := Nat.sub_mod_eq_zero_of_mod_eq q.symm
  rw [show x + j - (x + i) = j - i by omega, Nat.mod_eq_of_lt (by omega)] at h
  omega
theorem fill4 {ns nb k n x D : Nat} {F R : Int32} (hn : 0 < n) (hn2 : n ≤ 96) (hx : x < n) (hD : 0 < D) (hDn : D ≤ n) (hF : 0 ≤ F.toInt ∧ F.toInt ≤ 101) (hR : -101 ≤ R.toInt ∧ R.toInt ≤ 101) : ∀ (m i fuel : Nat) (σ : Sg), i + m = D → m < fuel → ∃ σ' : Sg, LX1_drawBehind_59 ns nb k (nI x) (nI n) (nI D) F R fuel (nI i) σ = some σ' ∧ σ'.2 = σ.2 ∧ (∀ k' j' f', ¬ (k' = 12 ∧ j' = k) → σ'.1 k' j' f' = σ.1 k' j' f') ∧ (∀ j, i ≤ j → j < D → (σ'.1 12 k ((x + j) % n)).toInt = F.toInt + (R.toInt * (j : Int)).fdiv (D : Int)) ∧ ∀ y, (∀ j, i ≤ j → j < D → y ≠ (x + j) % n) → σ'.1 12 k y = σ.1 12 k y := by
  intro m
  induction m with
  | zero =>
    intro i fuel σ hi hf
    obtain ⟨u, rfl⟩ : ∃ u, fuel = u + 1 := ⟨fuel - 1, by omega⟩
    exact ⟨σ, by rw [LX1_drawBehind_59, if_pos (nI_le (by omega) (by omega))], rfl, fun _ _ _ _ => rfl, fun j h1 h2 => by omega, fun y _ => rfl⟩
  | succ m ih =>
    intro i fuel σ hi hf
    obtain ⟨u, rfl⟩ : ∃ u, fuel = u + 1 := ⟨fuel - 1, by omega⟩
    have hmod : (x + i) % n < n := Nat.mod_lt _ hn
    have hiI : (nI i).toInt = (i : Int) := nI_toInt (by omega)
    have mb := mul_bnd (u := R.toInt) (k := i) hR.1 hR.2 (by omega)
    have s2 : (R * nI i).toInt = R.toInt * (i : Int) := by
      rw [fb_mulI, hiI] <;> rw [hiI] <;> omega
    obtain ⟨f, f1, f2⟩ := fdiv9 (ns := ns) (nb := nb) (σ := σ) (x := R * nI i) (d := D) (by rw [s2]; omega) hD (by omega)
    rw [s2] at f2
    have fb := fdiv_bnd (d := D) mb.1 mb.2 hD
    obtain ⟨σ', r1, r2, r3, r4, r5⟩ := ih (i + 1) u (sI σ 12 k ((x + i) % n) (F + f)) (by omega) (by omega)
    refine ⟨σ', ?_, r2, fun k' j' f' h => (r3 k' j' f' h).trans (if_neg (by omega)), fun j h1 h2 => ?_, fun y hy => ?_⟩
    · rw [LX1_drawBehind_59, if_neg (nI_ge (by omega) (by omega)), nI_add, rem4 (by omega) hn (by omega), Option.bind_some]
      dsimp only
      rw [f1, Option.bind_some]
      dsimp only
      rw [put4 (k := 12) (N := 96) rfl (by decide) (by omega), Option.bind_some, nI_1]
      exact r1
    · by_cases q : j = i
      · subst q
        rw [r5 _ (fun j' h1 h2 => mod_ne (by omega) (by omega)), sI_eq, if_pos ⟨rfl, rfl, rfl⟩, fb_addI, f2] <;> rw [f2] <;> omega
      · exact r4 j (by omega) h2
    · rw [r5 y (fun j h1 h2 => hy j (by omega) h2), sI_eq, if_neg (fun q => hy i (Nat.le_refl _) (by omega) q.2.2)]
