/-! ALL THAT THE LAW WANTS, BUT POINT, RUN, RUNSDOWN -/
theorem lawok_of
    (hpoint : ∀ (T ns nb : Nat) (σ : Sg) (a1 : Int32) (a2 : Int32) (a3 : Int32) (a4 : Int32), T < 512 → Inv T ns nb σ → ∃ (k bv : Int32) (σ1 σ2 : Sg), FL_point ns nb σ a1 a2 a3 a4 = some (k, σ1) ∧ FX5_point ns nb σ1 a1 a2 a3 a4 = some (bv, σ2) ∧ σ2.1 20 0 0 = k ∧ (k = 0 → σ2.2 30 0 0 = bv.toInt64) ∧ Inv (T + 1) ns nb σ2)
    (hrun : ∀ (T ns nb : Nat) (σ : Sg) (a1 : Int32), T < 512 → Inv T ns nb σ → ∃ (k bv : Int32) (σ1 σ2 : Sg), FL_run ns nb σ a1 = some (k, σ1) ∧ FX5_run ns nb σ1 a1 = some (bv, σ2) ∧ σ2.1 20 0 0 = k ∧ (k = 0 → σ2.2 30 0 0 = bv.toInt64) ∧ Inv (T + 1) ns nb σ2)
    (hruns : ∀ (T ns nb : Nat) (σ : Sg) (a1 : Int32), T < 512 → Inv T ns nb σ → ∃ (k bv : Int32) (σ1 σ2 : Sg), FL_runsDown ns nb σ a1 = some (k, σ1) ∧ FX5_runsDown ns nb σ1 a1 = some (bv, σ2) ∧ σ2.1 20 0 0 = k ∧ (k = 0 → σ2.2 30 0 0 = bv.toInt64) ∧ Inv (T + 1) ns nb σ2) : LawOK Inv := by
  have kept : ∀ (T ns nb : Nat) (σ : Sg), Inv T ns nb σ → kN σ ≤ 250 := by
    intro T ns nb σ h
    obtain ⟨A, -, hM, hW⟩ := h
    have h250 : A 3 0 1 ≤ 250 := hW.2.2.2.2.2.2.2.2.1.1
    have e : kN σ = A 3 0 1 := by
      unfold kN
      rw [hM.2.2.2.2.2.1.1, nI_clamp (by omega)]
    omega
  refine ⟨fun T ns nb σ a1 _ h => addSpring_ok T ns nb σ a1 h, fun T ns nb σ a1 a2 _ h => wind_ok T ns nb σ a1 a2 h, fun T ns nb σ a1 a2 _ h hb => brake_ok T ns nb σ a1 a2 h hb, fun T ns nb σ a1 a2 a3 _ h hb => couple_ok T ns nb σ a1 a2 a3 h hb, fun T ns nb σ a1 a2 hT h => spring_ok T ns nb σ a1 a2 hT h, fun T ns nb σ a1 a2 a3 a4 a5 _ h => addBird_ok T ns nb σ a1 a2 a3 a4 a5 h, fun T ns nb σ a1 a2 _ h hb => engage_ok T ns nb σ a1 a2 h hb, fun T ns nb σ a1 a2 a3 _ h => pin_ok T ns nb σ a1 a2 a3 h, fun T ns nb σ a1 a2 a3 _ h => tune_ok T ns nb σ a1 a2 a3 h, hpoint, fun T ns nb σ a1 a2 hT h => bird_ok T ns nb σ a1 a2 hT h, fun T ns nb σ a1 a2 a3 hT h => lift_ok T ns nb σ a1 a2 a3 hT h, fun T ns nb σ a1 hT h => ?_, fun T ns nb σ a1 _ h => count_ok T ns nb σ a1 h, fun T ns nb σ a1 a2 _ h => sung_ok T ns nb σ a1 a2 h, fun T ns nb σ a1 _ h => chord_ok T ns nb σ a1 h, fun T ns nb σ _ h => longest_ok T ns nb σ h, fun T ns nb σ _ h => emptySongs_ok T ns nb σ h, fun T ns nb σ a1 hT h => ?_, fun T ns nb σ _ h => tension_ok T ns nb σ h, fun T ns nb σ hT h => digest_ok T ns nb σ hT h, fun T ns nb σ h => ?_⟩
  · obtain ⟨k, bv, σ1, σ2, e1, e2, e3, e4, e5⟩ := hrun T ns nb σ a1 hT h
    exact ⟨k, bv, σ1, σ2, e1, e2, e3, e4, e5, kept _ _ _ _ e5⟩
  · obtain ⟨k, bv, σ1, σ2, e1, e2, e3, e4, e5⟩ := hruns T ns nb σ a1 hT h
    exact ⟨k, bv, σ1, σ2, e1, e2, e3, e4, e5, kept _ _ _ _ e5⟩
  · obtain ⟨A, hC, hM, hW⟩ := h
    exact ⟨A, hC, hM, hW.up (by omega)⟩
