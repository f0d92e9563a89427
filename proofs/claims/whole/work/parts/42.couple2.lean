theorem vn0 : vp_nar .boolean 0 = nI 0 := by decide
theorem vn1 : vp_nar .boolean 1 = nI 1 := by decide
theorem Cm.cp {A : Ab} {ns nb : Nat} {σ : Sg} (h : Cm A ns nb σ) {m x v : Nat} : Cm (aU A 23 m x v) ns nb (sI σ 0 0 5 (nI (cpA (aU A 23 m x v)))) := by
  obtain ⟨h1, h2, h3, h4, h5, h6, h7⟩ := h
  exact ⟨h1, h2, h3, h4, h5, h6, h7.1, h7.2.1, rfl, h7.2.2.2⟩
theorem Mm.cp {A : Ab} {ns nb : Nat} {τ : Sg} (h : Mm A ns nb τ) {m x v : Nat} (hm : m < x) (hx : x < 4) : Mm (aU A 23 m x v) ns nb (sI τ 23 0 (4 * m + x) (nI v)) := by
  obtain ⟨h1, h2, h3, h4, h5, h6, h7, h8⟩ := h
  refine ⟨h1, h2, h3, h4, h5, h6, fun a ha b hb => ?_, h8⟩
  rw [sI_eq, aU_eq]
  by_cases q : a = m ∧ b = x
  · obtain ⟨rfl, rfl⟩ := q
    simp [hm]
  · have e1 : ¬ (4 * a + b = 4 * m + x) := by omega
    simp only [e1, q, and_false, if_false]
    exact h7 a ha b hb
theorem Wf.cp {A : Ab} {ns nb T m x v : Nat} (h : Wf A ns nb T) (hv : v ≤ 1) : Wf (aU A 23 m x v) ns nb T := by
  obtain ⟨h1, h2, h3, h4, h5, h6, h7, h8, h9, h10⟩ := h
  refine ⟨h1, h2, h3, h4, h5, h6, h7, h8, h9, fun a b => ?_⟩
  rw [aU_eq]
  by_cases q : 23 = 23 ∧ a = m ∧ b = x
  · rw [if_pos q]; exact hv
  · rw [if_neg q]; exact h10 a b
theorem couple_ok (T ns nb : Nat) (σ : Sg) (a1 a2 a3 : Int32) (h : Inv T ns nb σ) (h3 : a3 = 0 ∨ a3 = 1) : ∃ (k bv : Int32) (σ1 σ2 : Sg), FL_couple ns nb σ a1 a2 a3 = some (k, σ1) ∧ FX5_couple ns nb σ1 a1 a2 a3 = some (bv, σ2) ∧ σ2.1 20 0 0 = k ∧ (k = 0 → σ2.2 30 0 0 = bv.toInt64) ∧ Inv (T + 1) ns nb σ2 := by
  refine bothW (F5 := fun τ => FX5_couple ns nb τ a1 a2 a3) h (fun A hC hW => ?_)
  have h4 : ns ≤ 4 := hW.1
  have hwc : wCp A := hW.2.2.2.2.2.2.2.2.2
  unfold FX4_couple
  by_cases h1 : vp_in a1 ns
  · obtain ⟨i, hi, rfl⟩ := vp_in_of h1 (by omega)
    rw [spAt_in h4 hi, Option.bind_some, oc_s, if_pos hi]
    by_cases h2 : vp_in a2 ns
    · obtain ⟨j, hj, rfl⟩ := vp_in_of h2 (by omega)
      rw [spAt_in h4 hj, Option.bind_some, oc_s, if_pos hj]
      by_cases hij : i = j
      · subst hij
        rw [if_pos rfl]
        refine ⟨_, _, A, rfl, frC.rf, hC, hW.up (by omega), fun τ hM => ref1 (x := 2) (y := 0) hM ?_ rfl (by decide)⟩
        (try dsimp only)
        unfold FX5_couple
        rw [isSp_in (n := ns) (τ := sI τ 20 0 0 0) (by omega) hM.2.2.2.2.2.2.2.1 hi, Option.bind_some, if_neg n10]
        dsimp only
        rw [isSp_in (n := ns) (τ := sI τ 20 0 0 0) (by omega) hM.2.2.2.2.2.2.2.1 hi, Option.bind_some, if_neg n10, if_pos rfl]
      · have hm : min i j < max i j := by omega
        have hx : max i j < 4 := by omega
        obtain ⟨m, em⟩ : ∃ m, m = min i j := ⟨_, rfl⟩
        obtain ⟨x, ex⟩ : ∃ x, x = max i j := ⟨_, rfl⟩
        rw [← em, ← ex] at hm
        rw [← ex] at hx
        have e5 : σ.1 0 0 5 = nI (cpA A) := hC.2.2.2.2.2.2.2.2.1
        have epb : FX4_pairBit ns nb σ (nI i) (nI j) = some ((1 : Int32) <<< ((nI m * 4 + nI x) &&& 31), σ) := by
          unfold FX4_pairBit
          rw [mn_nI (by omega) (by omega), mx_nI (by omega) (by omega), ← em, ← ex]
        have hne : ¬ nI i = nI j := fun q => hij ((nI_eq (by omega) (by omega)).mp q)
        have model : ∀ (u : Nat), u ≤ 1 → vp_nar .boolean a3 = nI u → ∀ τ, Mm A ns nb τ → ∃ (bv : Int32) (τ1 : Sg), FX5_couple ns nb τ (nI i) (nI j) a3 = some (bv, τ1) ∧ frM τ τ1 ∧ Mm (aU A 23 m x u) ns nb τ1 ∧ Ag (fun k => if k = 1 then some 1 else if k = 2 then some 2 else none) Int32.toInt64 Int32.toInt64 (.inr (nI (prA (aU A 23 m x u)))) τ1 bv := by
          intro u hu ea τ hM
          have hM' : Mm (aU A 23 m x u) ns nb (sI (sI τ 20 0 0 0) 23 0 (4 * m + x) (nI u)) := (hM.thr 0).cp hm hx
          have hg := ixg 4 (i := m) (f := x) (N := 16) (by omega) (by decide)
          refine ⟨nI (prA (aU A 23 m x u)), sI (sI τ 20 0 0 0) 23 0 (4 * m + x) (nI u), ?_, (frM_I (by decide) (by decide)).tr (frM_I (by decide) (by decide)), hM', rfl, rfl⟩
          unfold FX5_couple
          rw [isSp_in (n := ns) (τ := sI τ 20 0 0 0) (by omega) hM.2.2.2.2.2.2.2.1 hi, Option.bind_some, if_neg n10]
          dsimp only
          rw [isSp_in (n := ns) (τ := sI τ 20 0 0 0) (by omega) hM.2.2.2.2.2.2.2.1 hj, Option.bind_some, if_neg n10, if_neg hne, mn_nI (by omega) (by omega), mx_nI (by omega) (by omega), ← em, ← ex]
          have hg1 : ¬ ((4 * nI m + nI x) < 0 ∨ 16 ≤ (4 * nI m + nI x).toNatClampNeg) := hg.1
          have hg2 : (4 * nI m + nI x).toNatClampNeg = 4 * m + x := hg.2
          rw [if_neg hg1, hg2, ea, pairsM hM'.2.2.2.2.2.2.1 (hW.cp (v := u) hu).2.2.2.2.2.2.2.2.2]
          rfl
        rw [if_neg hne, epb, Option.bind_some]
        dsimp only
        rcases h3 with rfl | rfl
        · rw [if_pos rfl, e5, andA hwc hm hx, bc_eq, Option.bind_some, sI_eq, if_pos ⟨rfl, rfl, rfl⟩, bcA (hW.cp (v := 0) (by decide)).2.2.2.2.2.2.2.2.2]
          exact ⟨_, _, aU A 23 m x 0, rfl, frC_I (by decide), hC.cp, (hW.cp (by decide)).up (by omega), model 0 (by decide) vn0⟩
        · rw [if_neg n10, e5, orA hwc hm hx, bc_eq, Option.bind_some, sI_eq, if_pos ⟨rfl, rfl, rfl⟩, bcA (hW.cp (v := 1) (by decide)).2.2.2.2.2.2.2.2.2]
          exact ⟨_, _, aU A 23 m x 1, rfl, frC_I (by decide), hC.cp, (hW.cp (by decide)).up (by omega), model 1 (by decide) vn1⟩
    · rw [spAt_out h4 h2, Option.bind_some, oc_n]
      refine ⟨_, _, A, rfl, frC.rf, hC, hW.up (by omega), fun τ hM => ref1 (x := 1) (y := 0) hM ?_ rfl (by decide)⟩
      (try dsimp only)
      unfold FX5_couple
      rw [isSp_in (n := ns) (τ := sI τ 20 0 0 0) (by omega) hM.2.2.2.2.2.2.2.1 hi, Option.bind_some, if_neg n10]
      dsimp only
      rw [isSp_out (n := ns) (τ := sI τ 20 0 0 0) (by omega) hM.2.2.2.2.2.2.2.1 h2, Option.bind_some, if_pos rfl]
  · rw [spAt_out h4 h1, Option.bind_some, oc_n]
    refine ⟨_, _, A, rfl, frC.rf, hC, hW.up (by omega), fun τ hM => ref1 (x := 1) (y := 0) hM ?_ rfl (by decide)⟩
    (try dsimp only)
    unfold FX5_couple
    rw [isSp_out (n := ns) (τ := sI τ 20 0 0 0) (by omega) hM.2.2.2.2.2.2.2.1 h1, Option.bind_some, if_pos rfl]
