/-! BIRD -/
theorem lN_ne0 {n : Nat} (h0 : 0 < n) (h : n < 2 ^ 31) : ¬ lN n = 0 := fun q => absurd ((lN_eq (b := 0) h (by decide)).mp q) (by omega)
theorem goneB {A : Ab} {ns nb T b : Nat} (h : Wf A ns nb T) (hT : T ≤ 516) (hb : b < nb) : A 6 b 11 < 1000000000 ∧ A 6 b 10 < 1000000000 ∧ A 5 (A 6 b 0) 2 ≤ 104000000 := by
  obtain ⟨h1, h2, h3, ⟨h4, -⟩, h5, -⟩ := h
  obtain ⟨b0, b1, b2, b3, b4, b5, b6, b7, b8, b9, b10, b11⟩ := h5 b hb
  obtain ⟨-, -, -, s4, -⟩ := h4 _ b0
  have hs : A 5 (A 6 b 0) 2 ≤ 104000000 := by omega
  have m1 : (A 5 (A 6 b 0) 2 - A 6 b 10) * A 6 b 3 * A 6 b 2 ≤ 104000000 * 12 * 96 := Nat.mul_le_mul (Nat.mul_le_mul (by omega) b5) b3
  have m2 : (A 5 (A 6 b 0) 2 - A 6 b 10) * A 6 b 3 * A 6 b 2 / (1000 * A 6 b 4) ≤ 104000000 * 12 * 96 / 1000 := Nat.div_le_div m1 (by omega) (by decide)
  exact ⟨by omega, by omega, hs⟩
theorem plNow {A : Ab} {ns nb T b : Nat} {σ : Sg} (hC : Cm A ns nb σ) (h : Wf A ns nb T) (hT : T ≤ 516) (hb : b < nb) : FX0_placeNow ns nb σ b = some (nI (A 6 b 11 % A 6 b 2), σ) := by
  obtain ⟨g1, -, -⟩ := goneB h hT hb
  obtain ⟨b0, b1, b2, b3, -⟩ := h.2.2.2.2.1 b hb
  obtain ⟨-, -, c2, -, -, -, -, -, c11, -⟩ := hC.2.1 b hb
  unfold FX0_placeNow FX0_placeWhenGone
  rw [c2, c11, nI_l (by omega), if_neg (nI_nle (by omega) (by omega)), if_neg (lN_ne0 (by omega) (by omega)), pk_lRem (by omega) (by omega) (by omega), lN_i, Option.bind_some]
theorem bird_ok (T ns nb : Nat) (σ : Sg) (a1 a2 : Int32) (hT : T < 512) (h : Inv T ns nb σ) : ∃ (k bv : Int32) (σ1 σ2 : Sg), FL_bird ns nb σ a1 a2 = some (k, σ1) ∧ FX5_bird ns nb σ1 a1 a2 = some (bv, σ2) ∧ σ2.1 20 0 0 = k ∧ (k = 0 → σ2.2 30 0 0 = bv.toInt64) ∧ Inv (T + 1) ns nb σ2 := by
  refine bothW (F5 := fun τ => FX5_bird ns nb τ a1 a2) h (fun A hC hW => ?_)
  have h8 : nb ≤ 8 := hW.2.1
  unfold FX4_bird
  by_cases h1 : vp_in a1 nb
  · obtain ⟨b, hb, rfl⟩ := vp_in_of h1 (by omega)
    rw [bdAt_in h8 hb, Option.bind_some, oc_s, if_pos hb]
    dsimp only
    rcases rngN (a := a2) (x := 0) (y := 9) (by decide) (by decide) with q | ⟨l, l1, l2, rfl⟩
    · have ne : ∀ j, j ≤ 9 → ¬ a2 = nI j := fun j hj e => by
        subst e
        exact in_rng (Nat.zero_le j) hj (by decide) q
      rw [if_neg (show ¬ a2 = 0 from ne 0 (by decide))]
      rw [if_neg (show ¬ a2 = 1 from ne 1 (by decide))]
      rw [if_neg (show ¬ a2 = 2 from ne 2 (by decide))]
      rw [if_neg (show ¬ a2 = 3 from ne 3 (by decide))]
      rw [if_neg (show ¬ a2 = 4 from ne 4 (by decide))]
      rw [if_neg (show ¬ a2 = 5 from ne 5 (by decide))]
      rw [if_neg (show ¬ a2 = 6 from ne 6 (by decide))]
      rw [if_neg (show ¬ a2 = 7 from ne 7 (by decide))]
      rw [if_neg (show ¬ a2 = 8 from ne 8 (by decide))]
      rw [if_neg (show ¬ a2 = 9 from ne 9 (by decide))]
      refine ⟨_, _, A, rfl, frC.rf, hC, hW.up (by omega), fun τ hM => ref1 (x := 1) (y := 0) hM ?_ rfl (by decide)⟩
      unfold FX5_bird
      rw [isBd_in (n := nb) (τ := sI τ 20 0 0 0) (by omega) hM.2.2.2.2.2.2.2.2.1 hb, Option.bind_some, if_neg n10, in5n (show a2 < 0 ∨ 9 < a2 from q), Option.bind_some, if_pos rfl]
    · have q := in_rng (x := 0) (y := 9) l1 l2 (by decide)
      obtain ⟨c0, c1, c2, c3, c4, c8, c9, c10, c11, c12⟩ := hC.2.1 b hb
      obtain ⟨g1, -, -⟩ := goneB hW (by omega) hb
      have key : ∀ (r v : Int32), r = v → (∀ τ, Mm A ns nb τ → τ.1 22 0 (11 * b + l) = v) → ∃ (z : Nat ⊕ Int32) (σ1 : Sg) (A' : Ab), (some (.inr r, σ) : Option ((Nat ⊕ Int32) × Sg)) = some (z, σ1) ∧ frC σ σ1 ∧ Cm A' ns nb σ1 ∧ Wf A' ns nb (T + 1) ∧ ∀ τ, Mm A ns nb τ → ∃ (bv : Int32) (τ1 : Sg), FX5_bird ns nb τ (nI b) (nI l) = some (bv, τ1) ∧ frM τ τ1 ∧ Mm A' ns nb τ1 ∧ Ag (fun k => if k = 1 then some 1 else none) Int32.toInt64 Int32.toInt64 z τ1 bv := by
        intro r v hrv hm
        refine ⟨_, _, A, rfl, frC.rf, hC, hW.up (by omega), fun τ hM => ⟨v, sI τ 20 0 0 0, ?_, frM_I (by decide) (by decide), hM.thr 0, rfl, congrArg Int32.toInt64 hrv⟩⟩
        unfold FX5_bird
        rw [isBd_in (n := nb) (τ := sI τ 20 0 0 0) (by omega) hM.2.2.2.2.2.2.2.2.1 hb, Option.bind_some, if_neg n10, in5y (show ¬ (nI l < 0 ∨ 9 < nI l) from q), Option.bind_some, if_neg n10, gt5 (by omega) (by omega), Option.bind_some]
        exact congrArg some (congrArg (fun z => (z, sI τ 20 0 0 0)) (hm τ hM))
      have mm : ∀ τ, Mm A ns nb τ → _ := fun τ hM => hM.2.1 b hb
      rcases (show l = 0 ∨ l = 1 ∨ l = 2 ∨ l = 3 ∨ l = 4 ∨ l = 5 ∨ l = 6 ∨ l = 7 ∨ l = 8 ∨ l = 9 by omega) with rfl | rfl | rfl | rfl | rfl | rfl | rfl | rfl | rfl | rfl
      · rw [if_pos (show nI 0 = 0 from rfl)]
        exact key _ _ c0 (fun τ hM => (mm τ hM).1)
      · rw [if_neg (show ¬ nI 1 = 0 by decide)]
        rw [if_pos (show nI 1 = 1 from rfl)]
        exact key _ _ c1 (fun τ hM => (mm τ hM).2.1)
      · rw [if_neg (show ¬ nI 2 = 0 by decide)]
        rw [if_neg (show ¬ nI 2 = 1 by decide)]
        rw [if_pos (show nI 2 = 2 from rfl)]
        exact key _ _ c2 (fun τ hM => (mm τ hM).2.2.1)
      · rw [if_neg (show ¬ nI 3 = 0 by decide)]
        rw [if_neg (show ¬ nI 3 = 1 by decide)]
        rw [if_neg (show ¬ nI 3 = 2 by decide)]
        rw [if_pos (show nI 3 = 3 from rfl)]
        exact key _ _ c3 (fun τ hM => (mm τ hM).2.2.2.1)
      · rw [if_neg (show ¬ nI 4 = 0 by decide)]
        rw [if_neg (show ¬ nI 4 = 1 by decide)]
        rw [if_neg (show ¬ nI 4 = 2 by decide)]
        rw [if_neg (show ¬ nI 4 = 3 by decide)]
        rw [if_pos (show nI 4 = 4 from rfl)]
        exact key _ _ c4 (fun τ hM => (mm τ hM).2.2.2.2.1)
      · rw [if_neg (show ¬ nI 5 = 0 by decide)]
        rw [if_neg (show ¬ nI 5 = 1 by decide)]
        rw [if_neg (show ¬ nI 5 = 2 by decide)]
        rw [if_neg (show ¬ nI 5 = 3 by decide)]
        rw [if_neg (show ¬ nI 5 = 4 by decide)]
        rw [if_pos (show nI 5 = 5 from rfl)]
        rw [plNow hC hW (by omega) hb, Option.bind_some]
        exact key _ _ rfl (fun τ hM => (mm τ hM).2.2.2.2.2.1)
      · rw [if_neg (show ¬ nI 6 = 0 by decide)]
        rw [if_neg (show ¬ nI 6 = 1 by decide)]
        rw [if_neg (show ¬ nI 6 = 2 by decide)]
        rw [if_neg (show ¬ nI 6 = 3 by decide)]
        rw [if_neg (show ¬ nI 6 = 4 by decide)]
        rw [if_neg (show ¬ nI 6 = 5 by decide)]
        rw [if_pos (show nI 6 = 6 from rfl)]
        rw [c9]
        rcases (show A 6 b 9 = 0 ∨ A 6 b 9 = 1 by have := (hW.2.2.2.2.1 b hb).2.2.2.2.2.2.2.2.2.1; omega) with q9 | q9
        · rw [q9, if_pos (show nI 0 = 0 from rfl)]
          exact key _ (nI (A 6 b 9)) (by rw [q9]; rfl) (fun τ hM => (mm τ hM).2.2.2.2.2.2.1)
        · rw [q9, if_neg (show ¬ nI 1 = 0 by decide)]
          exact key _ (nI (A 6 b 9)) (by rw [q9]; rfl) (fun τ hM => (mm τ hM).2.2.2.2.2.2.1)
      · rw [if_neg (show ¬ nI 7 = 0 by decide)]
        rw [if_neg (show ¬ nI 7 = 1 by decide)]
        rw [if_neg (show ¬ nI 7 = 2 by decide)]
        rw [if_neg (show ¬ nI 7 = 3 by decide)]
        rw [if_neg (show ¬ nI 7 = 4 by decide)]
        rw [if_neg (show ¬ nI 7 = 5 by decide)]
        rw [if_neg (show ¬ nI 7 = 6 by decide)]
        rw [if_pos (show nI 7 = 7 from rfl)]
        exact key _ _ c8 (fun τ hM => (mm τ hM).2.2.2.2.2.2.2.1)
      · rw [if_neg (show ¬ nI 8 = 0 by decide)]
        rw [if_neg (show ¬ nI 8 = 1 by decide)]
        rw [if_neg (show ¬ nI 8 = 2 by decide)]
        rw [if_neg (show ¬ nI 8 = 3 by decide)]
        rw [if_neg (show ¬ nI 8 = 4 by decide)]
        rw [if_neg (show ¬ nI 8 = 5 by decide)]
        rw [if_neg (show ¬ nI 8 = 6 by decide)]
        rw [if_neg (show ¬ nI 8 = 7 by decide)]
        rw [if_pos (show nI 8 = 8 from rfl)]
        exact key _ (nI (A 6 b 11)) (by rw [c11, lN_i]) (fun τ hM => (mm τ hM).2.2.2.2.2.2.2.2.1)
      · rw [if_neg (show ¬ nI 9 = 0 by decide)]
        rw [if_neg (show ¬ nI 9 = 1 by decide)]
        rw [if_neg (show ¬ nI 9 = 2 by decide)]
        rw [if_neg (show ¬ nI 9 = 3 by decide)]
        rw [if_neg (show ¬ nI 9 = 4 by decide)]
        rw [if_neg (show ¬ nI 9 = 5 by decide)]
        rw [if_neg (show ¬ nI 9 = 6 by decide)]
        rw [if_neg (show ¬ nI 9 = 7 by decide)]
        rw [if_neg (show ¬ nI 9 = 8 by decide)]
        rw [if_pos (show nI 9 = 9 from rfl)]
        exact key _ _ c12 (fun τ hM => (mm τ hM).2.2.2.2.2.2.2.2.2.1)
  · rw [bdAt_out h8 h1, Option.bind_some, oc_n]
    refine ⟨_, _, A, rfl, frC.rf, hC, hW.up (by omega), fun τ hM => ref1 (x := 1) (y := 0) hM ?_ rfl (by decide)⟩
    (try dsimp only)
    unfold FX5_bird
    rw [isBd_out (n := nb) (τ := sI τ 20 0 0 0) (by omega) hM.2.2.2.2.2.2.2.2.1 h1, Option.bind_some, if_pos rfl]
