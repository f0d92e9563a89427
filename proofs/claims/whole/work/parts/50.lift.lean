/-! LIFT -/
theorem cmAt_in {ns nb b c : Nat} {σ : Sg} (hc : c < 3) : FX0_camAt ns nb σ b (nI c) = some (some (3 * b + c), σ) := by
  unfold FX0_camAt
  rw [if_neg (nI_pos (by omega)), if_neg (show ¬ ((3 : Int32) ≤ nI c) from nI_ge (b := 3) (by omega) (by omega)), if_neg (nI_in (by omega) (by omega)), nI_clamp (by omega)]
theorem cmAt_out {ns nb b : Nat} {a : Int32} {σ : Sg} (h : ¬ vp_in a 3) : FX0_camAt ns nb σ b a = some (none, σ) := by
  unfold FX0_camAt
  rcases out4 (Nat.le_refl 3) (by decide) h with h1 | h1 | ⟨j, h1, h2, -⟩
  · rw [if_pos h1]
  · by_cases h0 : a < 0
    · rw [if_pos h0]
    · rw [if_neg h0, if_pos (show (3 : Int32) ≤ a from h1)]
  · omega
theorem m1I : (-1 : Int32).toInt = -1 := by decide
theorem n1I {n : Nat} (hn : n < 2 ^ 31) : (nI n - 1).toInt = (n : Int) - 1 := by
  rw [fb_subI, nI_toInt hn, Int32_1] <;> rw [nI_toInt hn, Int32_1] <;> omega
theorem lift_ok (T ns nb : Nat) (σ : Sg) (a1 a2 a3 : Int32) (hT : T < 512) (h : Inv T ns nb σ) : ∃ (k bv : Int32) (σ1 σ2 : Sg), FL_lift ns nb σ a1 a2 a3 = some (k, σ1) ∧ FX5_lift ns nb σ1 a1 a2 a3 = some (bv, σ2) ∧ σ2.1 20 0 0 = k ∧ (k = 0 → σ2.2 30 0 0 = bv.toInt64) ∧ Inv (T + 1) ns nb σ2 := by
  refine bothW (F5 := fun τ => FX5_lift ns nb τ a1 a2 a3) h (fun A hC hW => ?_)
  have h8 : nb ≤ 8 := hW.2.1
  unfold FX4_lift
  by_cases h1 : vp_in a1 nb
  · obtain ⟨b, hb, rfl⟩ := vp_in_of h1 (by omega)
    obtain ⟨w0, w1, w2, w3, -⟩ := hW.2.2.2.2.1 b hb
    have c2 := (hC.2.1 b hb).2.2.1
    rw [bdAt_in h8 hb, Option.bind_some, oc_s, if_pos hb]
    dsimp only
    have head : ∀ τ, Mm A ns nb τ → FX5_isBird ns nb (sI τ 20 0 0 0) (nI b) = some (1, sI τ 20 0 0 0) := fun τ hM => isBd_in (n := nb) (by omega) hM.2.2.2.2.2.2.2.2.1 hb
    have gm : ∀ τ, Mm A ns nb τ → FX5_get ns nb (sI τ 20 0 0 0) (nI b) 2 = some (nI (A 6 b 2), sI τ 20 0 0 0) := fun τ hM => by
      rw [← (hM.2.1 b hb).2.2.1]; exact gt5 (τ := sI τ 20 0 0 0) (f := 2) (by omega) (by decide)
    have gp : ∀ τ, Mm A ns nb τ → FX5_get ns nb (sI τ 20 0 0 0) (nI b) 5 = some (nI (A 6 b 11 % A 6 b 2), sI τ 20 0 0 0) := fun τ hM => by
      rw [← (hM.2.1 b hb).2.2.2.2.2.1]; exact gt5 (τ := sI τ 20 0 0 0) (f := 5) (by omega) (by decide)
    by_cases h2 : vp_in a2 3
    · obtain ⟨c, hc, rfl⟩ := vp_in_of h2 (by omega)
      have q2 : ¬ (nI c < 0 ∨ 2 < nI c) := in_rng (x := 0) (y := 2) (by omega) (by omega) (by decide)
      have hk : 3 * b + c < 3 * nb := by omega
      rw [cmAt_in hc, Option.bind_some, oc_s, if_pos hk]
      dsimp only
      by_cases h3 : a3 = -1
      · subst h3
        have hpl : A 6 b 11 % A 6 b 2 < A 6 b 2 := Nat.mod_lt _ (by omega)
        rw [if_pos rfl, if_pos rfl, plNow hC hW (by omega) hb, Option.bind_some]
        dsimp only
        rw [at4 (k := 12) (N := 96) rfl (by decide) (by omega), Option.bind_some]
        refine ⟨_, _, A, rfl, frC.rf, hC, hW.up (by omega), fun τ hM => ?_⟩
        obtain ⟨r, r1, r2⟩ := liftM (ns := ns) (hM.thr 0) hW hb hc hpl
        refine ⟨r, sI τ 20 0 0 0, ?_, frM_I (by decide) (by decide), hM.thr 0, rfl, ?_⟩
        · (try dsimp only)
          unfold FX5_lift
          rw [head τ hM, Option.bind_some, if_neg n10, in5y q2, Option.bind_some, if_neg n10]
          dsimp only
          rw [gm τ hM, Option.bind_some, in5y (by rw [Int32.lt_iff_toInt_lt, Int32.lt_iff_toInt_lt, n1I (by omega), m1I]; omega), Option.bind_some, if_neg n10, if_pos rfl, gp τ hM, Option.bind_some]
          dsimp only
          rw [r1]
          rfl
        · have := (hC.2.2.2.2.1 b hb c hc).2.2 _ hpl
          exact congrArg Int32.toInt64 (Int32.toInt_inj.mp (this.trans r2.symm))
      · rw [if_neg h3]
        unfold FX0_hasPlace
        by_cases h4 : vp_in a3 (A 6 b 2)
        · have q4 : ¬ (a3 < 0 ∨ nI (A 6 b 2) - 1 < a3) := by rw [rng0 (by omega)]; exact fun z => z h4
          obtain ⟨x, hx, rfl⟩ := vp_in_of h4 (by omega)
          rw [c2, in4y q4, Option.bind_some, if_pos (Or.inr rfl), Option.bind_some, if_neg n10, if_neg h3]
          dsimp only
          rw [at4 (k := 12) (N := 96) rfl (by decide) (by omega), Option.bind_some]
          refine ⟨_, _, A, rfl, frC.rf, hC, hW.up (by omega), fun τ hM => ?_⟩
          obtain ⟨r, r1, r2⟩ := liftM (ns := ns) (hM.thr 0) hW hb hc hx
          refine ⟨r, sI τ 20 0 0 0, ?_, frM_I (by decide) (by decide), hM.thr 0, rfl, ?_⟩
          · (try dsimp only)
            unfold FX5_lift
            rw [head τ hM, Option.bind_some, if_neg n10, in5y q2, Option.bind_some, if_neg n10]
            dsimp only
            rw [gm τ hM, Option.bind_some, in5y (by rw [Int32.lt_iff_toInt_lt, Int32.lt_iff_toInt_lt, n1I (by omega), m1I, nI_toInt (by omega)]; omega), Option.bind_some, if_neg n10, if_neg h3]
            dsimp only
            rw [r1]
            rfl
          · have := (hC.2.2.2.2.1 b hb c hc).2.2 _ hx
            exact congrArg Int32.toInt64 (Int32.toInt_inj.mp (this.trans r2.symm))
        · have q4 : a3 < 0 ∨ nI (A 6 b 2) - 1 < a3 := (rng0 (by omega)).mpr h4
          rw [c2, in4n q4, Option.bind_some, if_pos (Or.inl rfl), Option.bind_some, if_pos rfl]
          refine ⟨_, _, A, rfl, frC.rf, hC, hW.up (by omega), fun τ hM => ref1 (x := 2) (y := 0) hM ?_ rfl (by decide)⟩
          have q5 : a3 < -1 ∨ nI (A 6 b 2) - 1 < a3 := by
            rw [Int32.lt_iff_toInt_lt, Int32.lt_iff_toInt_lt, Int32_0] at q4
            rw [Int32.lt_iff_toInt_lt, Int32.lt_iff_toInt_lt, m1I]
            have : a3.toInt ≠ -1 := fun z => h3 (Int32.toInt_inj.mp (z.trans m1I.symm))
            omega
          (try dsimp only)
          unfold FX5_lift
          rw [head τ hM, Option.bind_some, if_neg n10, in5y q2, Option.bind_some, if_neg n10]
          dsimp only
          rw [gm τ hM, Option.bind_some, in5n q5, Option.bind_some, if_pos rfl]
    · have q2 : a2 < 0 ∨ 2 < a2 := by
        have := (rng0 (a := a2) (n := 3) (by decide)).mpr h2
        exact this
      rw [cmAt_out h2, Option.bind_some, oc_n]
      refine ⟨_, _, A, rfl, frC.rf, hC, hW.up (by omega), fun τ hM => ref1 (x := 1) (y := 0) hM ?_ rfl (by decide)⟩
      (try dsimp only)
      unfold FX5_lift
      rw [head τ hM, Option.bind_some, if_neg n10, in5n q2, Option.bind_some, if_pos rfl]
  · rw [bdAt_out h8 h1, Option.bind_some, oc_n]
    refine ⟨_, _, A, rfl, frC.rf, hC, hW.up (by omega), fun τ hM => ref1 (x := 1) (y := 0) hM ?_ rfl (by decide)⟩
    (try dsimp only)
    unfold FX5_lift
    rw [isBd_out (n := nb) (τ := sI τ 20 0 0 0) (by omega) hM.2.2.2.2.2.2.2.2.1 h1, Option.bind_some, if_pos rfl]
