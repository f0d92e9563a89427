/-! POINT -/
theorem m1or {a : Int32} (h1 : ¬ a < -1) (h2 : ¬ 100 < a) : a = -1 ∨ ∃ v, v ≤ 100 ∧ a = nI v := by
  rw [Int32.lt_iff_toInt_lt, m1I] at h1
  rw [Int32.lt_iff_toInt_lt, show (100 : Int32).toInt = 100 by decide] at h2
  by_cases h : a.toInt = -1
  · exact Or.inl (Int32.toInt_inj.mp (h.trans m1I.symm))
  · refine Or.inr ⟨a.toInt.toNat, by omega, Int32.toInt_inj.mp ?_⟩
    rw [nI_toInt (by omega)]
    omega
theorem nIs1 {v : Nat} : nI v = nI (v + 1) - 1 := (nI_pred v).symm
theorem point_ok (T ns nb : Nat) (σ : Sg) (a1 a2 a3 a4 : Int32) (h : Inv T ns nb σ) : ∃ (k bv : Int32) (σ1 σ2 : Sg), FL_point ns nb σ a1 a2 a3 a4 = some (k, σ1) ∧ FX5_point ns nb σ1 a1 a2 a3 a4 = some (bv, σ2) ∧ σ2.1 20 0 0 = k ∧ (k = 0 → σ2.2 30 0 0 = bv.toInt64) ∧ Inv (T + 1) ns nb σ2 := by
  refine bothW (F5 := fun τ => FX5_point ns nb τ a1 a2 a3 a4) h (fun A hC hW => ?_)
  have h8 : nb ≤ 8 := hW.2.1
  unfold FX4_point
  by_cases h1 : vp_in a1 nb
  · obtain ⟨b, hb, rfl⟩ := vp_in_of h1 (by omega)
    obtain ⟨w0, w1, w2, w3, -⟩ := hW.2.2.2.2.1 b hb
    have c2 := (hC.2.1 b hb).2.2.1
    rw [bdAt_in h8 hb, Option.bind_some, oc_s, if_pos hb]
    dsimp only
    have head : ∀ τ, Mm A ns nb τ → FX5_isBird ns nb (sI τ 20 0 0 0) (nI b) = some (1, sI τ 20 0 0 0) := fun τ hM => isBd_in (n := nb) (by omega) hM.2.2.2.2.2.2.2.2.1 hb
    have gm : ∀ τ, Mm A ns nb τ → FX5_get ns nb (sI τ 20 0 0 0) (nI b) 2 = some (nI (A 6 b 2), sI τ 20 0 0 0) := fun τ hM => by
      rw [← (hM.2.1 b hb).2.2.1]; exact gt5 (τ := sI τ 20 0 0 0) (f := 2) (by omega) (by decide)
    by_cases h2 : vp_in a2 3
    · obtain ⟨c, hc, rfl⟩ := vp_in_of h2 (by omega)
      have q2 : ¬ (nI c < 0 ∨ 2 < nI c) := in_rng (x := 0) (y := 2) (by omega) (by omega) (by decide)
      have hk : 3 * b + c < 3 * nb := by omega
      have hcam : ∀ τ, FX5_cam ns nb τ (nI b) (nI c) = some (nI (96 * (3 * b + c)), τ) := fun τ => by
        unfold FX5_cam
        rw [show (96 : Int32) = nI 96 from rfl, show (3 : Int32) = nI 3 from rfl, pk_mul, nI_add, pk_mul]
      rw [cmAt_in hc, Option.bind_some, oc_s, if_pos hk]
      dsimp only
      unfold FX0_hasPlace
      by_cases h4 : vp_in a3 (A 6 b 2)
      · have q4 : ¬ (a3 < 0 ∨ nI (A 6 b 2) - 1 < a3) := by rw [rng0 (by omega)]; exact fun z => z h4
        obtain ⟨x, hx, rfl⟩ := vp_in_of h4 (by omega)
        rw [c2, in4y q4, Option.bind_some, if_pos (Or.inr rfl), Option.bind_some, if_neg n10]
        dsimp only
        by_cases q5 : a4 < -1 ∨ 100 < a4
        · rw [in4n q5, Option.bind_some, if_pos rfl]
          refine ⟨_, _, A, rfl, frC.rf, hC, hW.up (by omega), fun τ hM => ref1 (x := 2) (y := 0) hM ?_ rfl (by decide)⟩
          (try dsimp only)
          unfold FX5_point
          rw [head τ hM, Option.bind_some, if_neg n10, in5y q2, Option.bind_some, if_neg n10]
          dsimp only
          rw [gm τ hM, Option.bind_some, in5y q4, Option.bind_some, if_neg n10, in5n q5, Option.bind_some, if_pos rfl]
        · have hcm : cmK (A 12 (3 * b + c)) (A 6 b 2) (3 * b + c) σ := hC.2.2.2.2.1 b hb c hc
          have hP : ∀ y, A 12 (3 * b + c) y ≤ 101 := fun y => hW.2.2.2.2.2.2.2.1.1 _ y
          have hp8 : ptsA (A 12 (3 * b + c)) (A 6 b 2) ≤ 8 := (hW.2.2.2.2.2.2.2.1.2.2 b hb c hc).2
          have hpl := pts_le (P := A 12 (3 * b + c)) (A 6 b 2)
          have i1 := ix26 (nb := nb) hk h8 (y := x) (by omega)
          have hcc : ∀ {w : Nat} {σ' : Sg}, σ'.2 = σ.2 → (∀ k' j' f', ¬ ((k' = 10 ∧ f' = 2 ∨ k' = 11 ∨ k' = 12) ∧ j' = 3 * b + c) → σ'.1 k' j' f' = σ.1 k' j' f') → frC σ σ' := fun e2 e3 k i f hk => ⟨e3 k i f (by omega), by rw [e2]⟩
          have head2 : ∀ τ, Mm A ns nb τ → FX5_point ns nb τ (nI b) (nI c) (nI x) a4 = (if τ.1 26 0 (96 * (3 * b + c) + x) = -1 then (if a4 = (-1) then ((FX5_fail ns nb (sI τ 20 0 0 0) 3).bind fun z16 => some (z16.1, z16.2)) else if nI (ptsA (A 12 (3 * b + c)) (A 6 b 2)) = 8 then ((FX5_fail ns nb (sI τ 20 0 0 0) 3).bind fun z20 => some (z20.1, z20.2)) else ((FX5_pointsOf ns nb (sI (sI τ 20 0 0 0) 26 0 (96 * (3 * b + c) + x) a4) (nI b) (nI c)).bind fun z19 => some (z19.1, z19.2))) else ((FX5_pointsOf ns nb (sI (sI τ 20 0 0 0) 26 0 (96 * (3 * b + c) + x) a4) (nI b) (nI c)).bind fun z14 => some (z14.1, z14.2))) := fun τ hM => by
            have hpo := pointsM (ns := ns) (hM.thr 0) hW hb hc
            unfold FX5_point
            rw [head τ hM, Option.bind_some, if_neg n10, in5y q2, Option.bind_some, if_neg n10]
            dsimp only
            rw [gm τ hM, Option.bind_some, in5y q4, Option.bind_some, if_neg n10, in5y q5, Option.bind_some, if_neg n10]
            dsimp only
            rw [hcam, Option.bind_some]
            dsimp only
            rw [if_neg i1.1, if_neg i1.1, hpo, Option.bind_some, if_neg i1.1, i1.2]
            rfl
          have r26 : ∀ τ, Mm A ns nb τ → (τ.1 26 0 (96 * (3 * b + c) + x) = -1 ↔ A 12 (3 * b + c) x = 0) := fun τ hM => (row26 hM hW hk (by omega)).1
          have fin : ∀ (w : Nat) (σ' : Sg), w ≤ 101 → a4 = nI w - 1 → σ'.2 = σ.2 → (∀ k' j' f', ¬ ((k' = 10 ∧ f' = 2 ∨ k' = 11 ∨ k' = 12) ∧ j' = 3 * b + c) → σ'.1 k' j' f' = σ.1 k' j' f') → cmK (ptU (A 12 (3 * b + c)) x w) (A 6 b 2) (3 * b + c) σ' → ptsA (ptU (A 12 (3 * b + c)) x w) (A 6 b 2) ≤ 8 → (∀ τ, Mm A ns nb τ → FX5_point ns nb τ (nI b) (nI c) (nI x) a4 = (FX5_pointsOf ns nb (sI (sI τ 20 0 0 0) 26 0 (96 * (3 * b + c) + x) a4) (nI b) (nI c)).bind fun z14 => some (z14.1, z14.2)) → ∃ (z : Nat ⊕ Int32) (σ1 : Sg) (A' : Ab), (some (.inr (σ'.1 10 (3 * b + c) 2), σ') : Option ((Nat ⊕ Int32) × Sg)) = some (z, σ1) ∧ frC σ σ1 ∧ Cm A' ns nb σ1 ∧ Wf A' ns nb (T + 1) ∧ ∀ τ, Mm A ns nb τ → ∃ (bv : Int32) (τ1 : Sg), FX5_point ns nb τ (nI b) (nI c) (nI x) a4 = some (bv, τ1) ∧ frM τ τ1 ∧ Mm A' ns nb τ1 ∧ Ag (fun k => if k = 1 then some 1 else if k = 2 then some 2 else if k = 3 then some 3 else none) Int32.toInt64 Int32.toInt64 z τ1 bv := by
            intro w σ' hw e4 e2 e3 hcm' hp' hm
            have hW' := hW.pt hb hc hx hw hp'
            refine ⟨_, _, aU A 12 (3 * b + c) x w, rfl, hcc (w := w) e2 e3, hC.pt hc e2 e3 hcm', hW'.up (by omega), fun τ hM => ?_⟩
            have hM' := Mm.pt (hM.thr 0) (k := 3 * b + c) (x := x) (w := w) (v := a4) (by omega) e4
            have hpo := pointsM (ns := ns) hM' hW' hb hc
            rw [pt_row] at hpo
            refine ⟨_, _, ?_, (frM_I (by decide) (by decide)).tr (frM_I (by decide) (by decide)), hM', rfl, congrArg Int32.toInt64 hcm'.1⟩
            rw [hm τ hM, hpo, Option.bind_some]
            rfl
          rw [in4y q5, Option.bind_some, if_neg n10, hasP hcm.2.1 (by omega), Option.bind_some, c2]
          dsimp only
          rcases m1or (fun z => q5 (Or.inl z)) (fun z => q5 (Or.inr z)) with rfl | ⟨v, hv, rfl⟩
          · rw [if_pos rfl]
            by_cases hz : A 12 (3 * b + c) x = 0
            · rw [if_pos hz, if_pos rfl]
              refine ⟨_, _, A, rfl, frC.rf, hC, hW.up (by omega), fun τ hM => ref1 (x := 3) (y := 0) hM ?_ rfl (by decide)⟩
              (try dsimp only)
              rw [head2 τ hM, if_pos ((r26 τ hM).mpr hz), if_pos rfl]
            · obtain ⟨σ', t1, t2, t3, t4⟩ := takeC (ns := ns) (nb := nb) (by omega) w3 hx hP hz hcm
              have hu := pts_upd (A 12 (3 * b + c)) x 0 (A 6 b 2)
              rw [if_pos ⟨hx, hz⟩, if_neg (by omega)] at hu
              rw [if_neg hz, if_neg n10, if_neg n10, if_pos rfl, t1, Option.bind_some]
              refine fin 0 σ' (by omega) (by decide) t2 t3 t4 (by unfold ptU; omega) (fun τ hM => ?_)
              rw [head2 τ hM, if_neg (fun q => hz ((r26 τ hM).mp q))]
          · have nm1 : ¬ nI v = -1 := fun q => by
              have := congrArg Int32.toInt q
              rw [nI_toInt (by omega), m1I] at this
              omega
            obtain ⟨σ', t1, t2, t3, t4⟩ := layC (ns := ns) (nb := nb) (v := v) (by omega) w3 hx hv hP hcm
            have hu := pts_upd (A 12 (3 * b + c)) x (v + 1) (A 6 b 2)
            rw [if_neg nm1]
            by_cases hz : A 12 (3 * b + c) x = 0
            · rw [if_neg (fun q => q.2 hz), if_pos ⟨hx, by omega⟩] at hu
              rw [if_pos hz, if_pos rfl, hcm.1]
              by_cases h88 : ptsA (A 12 (3 * b + c)) (A 6 b 2) < 8
              · rw [if_pos (show nI (ptsA (A 12 (3 * b + c)) (A 6 b 2)) < 8 from nI_lt (b := 8) h88 (by decide)), if_neg nm1, t1, Option.bind_some]
                refine fin (v + 1) σ' (by omega) nIs1 t2 t3 t4 (by unfold ptU; omega) (fun τ hM => ?_)
                rw [head2 τ hM, if_pos ((r26 τ hM).mpr hz), if_neg nm1, if_neg (show ¬ nI (ptsA (A 12 (3 * b + c)) (A 6 b 2)) = 8 from fun q => absurd ((nI_eq (b := 8) (by omega) (by decide)).mp q) (by omega))]
              · rw [if_neg (show ¬ nI (ptsA (A 12 (3 * b + c)) (A 6 b 2)) < 8 from nI_nlt (b := 8) (by omega) (by omega))]
                refine ⟨_, _, A, rfl, frC.rf, hC, hW.up (by omega), fun τ hM => ref1 (x := 3) (y := 0) hM ?_ rfl (by decide)⟩
                (try dsimp only)
                rw [head2 τ hM, if_pos ((r26 τ hM).mpr hz), if_neg nm1, if_pos (by rw [show ptsA (A 12 (3 * b + c)) (A 6 b 2) = 8 by omega]; rfl)]
            · rw [if_pos ⟨hx, hz⟩, if_pos ⟨hx, by omega⟩] at hu
              rw [if_neg hz, if_neg n10, if_neg nm1, t1, Option.bind_some]
              refine fin (v + 1) σ' (by omega) nIs1 t2 t3 t4 (by unfold ptU; omega) (fun τ hM => ?_)
              rw [head2 τ hM, if_neg (fun q => hz ((r26 τ hM).mp q))]
      · have q4 : a3 < 0 ∨ nI (A 6 b 2) - 1 < a3 := (rng0 (by omega)).mpr h4
        rw [c2, in4n q4, Option.bind_some, if_pos (Or.inl rfl), Option.bind_some, if_pos rfl]
        refine ⟨_, _, A, rfl, frC.rf, hC, hW.up (by omega), fun τ hM => ref1 (x := 2) (y := 0) hM ?_ rfl (by decide)⟩
        (try dsimp only)
        unfold FX5_point
        rw [head τ hM, Option.bind_some, if_neg n10, in5y q2, Option.bind_some, if_neg n10]
        dsimp only
        rw [gm τ hM, Option.bind_some, in5n q4, Option.bind_some, if_pos rfl]
    · have q2 : a2 < 0 ∨ 2 < a2 := by
        have := (rng0 (a := a2) (n := 3) (by decide)).mpr h2
        exact this
      rw [cmAt_out h2, Option.bind_some, oc_n]
      refine ⟨_, _, A, rfl, frC.rf, hC, hW.up (by omega), fun τ hM => ref1 (x := 1) (y := 0) hM ?_ rfl (by decide)⟩
      (try dsimp only)
      unfold FX5_point
      rw [head τ hM, Option.bind_some, if_neg n10, in5n q2, Option.bind_some, if_pos rfl]
  · rw [bdAt_out h8 h1, Option.bind_some, oc_n]
    refine ⟨_, _, A, rfl, frC.rf, hC, hW.up (by omega), fun τ hM => ref1 (x := 1) (y := 0) hM ?_ rfl (by decide)⟩
    (try dsimp only)
    unfold FX5_point
    rw [isBd_out (n := nb) (τ := sI τ 20 0 0 0) (by omega) hM.2.2.2.2.2.2.2.2.1 h1, Option.bind_some, if_pos rfl]
