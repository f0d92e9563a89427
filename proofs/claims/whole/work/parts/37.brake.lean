/-! BRAKE, ADDSPRING -/
theorem Wf.brk {A : Ab} {ns nb T i v : Nat} (h : Wf A ns nb T) (hi : i < ns) (hv : v ≤ 1) : Wf (aU A 5 i 4 v) ns nb T := by
  obtain ⟨h1, h2, h3, ⟨h4, h4'⟩, h5, h6, h7, h8, h9, h10⟩ := h
  refine ⟨h1, h2, h3, ⟨fun j hj => ?_, fun j hj f => ?_⟩, fun b hb => ?_, h6, h7, h8, h9, h10⟩
  · obtain ⟨b1, b2, b3, b4, b5⟩ := h4 j hj
    refine ⟨by simpa [aU_eq] using b1, by simpa [aU_eq] using b2, by simpa [aU_eq] using b3, by simpa [aU_eq] using b4, ?_⟩
    rw [aU_eq]
    by_cases q : 5 = 5 ∧ j = i ∧ 4 = 4
    · rw [if_pos q]; exact hv
    · rw [if_neg q]; exact b5
  · rw [aU_eq, if_neg (by omega)]; exact h4' j hj f
  · have := h5 b hb
    simp only [aU_eq, show ¬ ((2 : Nat) = 4) by decide, show ¬ ((6 : Nat) = 5) by decide, and_false, false_and, if_false]
    exact this
theorem brake_ok (T ns nb : Nat) (σ : Sg) (a1 a2 : Int32) (h : Inv T ns nb σ) (h2 : a2 = 0 ∨ a2 = 1) : ∃ (k bv : Int32) (σ1 σ2 : Sg), FL_brake ns nb σ a1 a2 = some (k, σ1) ∧ FX5_brake ns nb σ1 a1 a2 = some (bv, σ2) ∧ σ2.1 20 0 0 = k ∧ (k = 0 → σ2.2 30 0 0 = (if bv = 0 then 0 else 1)) ∧ Inv (T + 1) ns nb σ2 := by
  refine bothW (w := fun bv => if bv = 0 then 0 else 1) (F5 := fun τ => FX5_brake ns nb τ a1 a2) h (fun A hC hW => ?_)
  have h4 : ns ≤ 4 := hW.1
  unfold FX4_brake
  by_cases h1 : vp_in a1 ns
  · obtain ⟨i, hi, rfl⟩ := vp_in_of h1 (by omega)
    obtain ⟨b1, b2, b3, b4, b5⟩ := hW.2.2.2.1.1 i hi
    obtain ⟨c0, c1, c2, c3, c4⟩ := hC.1 i hi
    obtain ⟨u, hu, ea⟩ : ∃ u, u ≤ 1 ∧ a2 = nI u := by
      rcases h2 with rfl | rfl
      · exact ⟨0, by decide, rfl⟩
      · exact ⟨1, by decide, rfl⟩
    have hz : σ.1 5 i 4 = 0 ∨ σ.1 5 i 4 = 1 := by
      rw [c4]
      rcases (show A 5 i 4 = 0 ∨ A 5 i 4 = 1 by omega) with q | q <;> rw [q]
      · exact Or.inl rfl
      · exact Or.inr rfl
    rw [spAt_in h4 hi, Option.bind_some, oc_s, if_pos hi, if_pos h2, if_pos (show (σ.1 5 i 4 = 0 ∨ σ.1 5 i 4 = 1) from hz)]
    refine ⟨_, _, aU A 5 i 4 u, rfl, frC_I (by decide), ?_, (hW.brk hi hu).up (by omega), fun τ hM => ?_⟩
    · show Cm _ ns nb (sI σ 5 i 4 a2)
      rw [ea]; exact hC.sp (Or.inr (Or.inr rfl))
    · have m1 : (sI τ 20 0 0 0).1 21 0 (5 * i + 4) = nI (A 5 i 4) := hM.1 i (by omega) 4 (by decide)
      have hg := ix5 (i := i) (f := 4) (by omega) (by decide)
      have hg1 : ¬ ((5 * nI i + 4) < 0 ∨ 20 ≤ (5 * nI i + 4).toNatClampNeg) := hg.1
      have hg2 : (5 * nI i + 4).toNatClampNeg = 5 * i + 4 := hg.2
      have hs : FX5_sp ns nb (sI τ 20 0 0 0) (nI i) 4 = some (nI (A 5 i 4), sI τ 20 0 0 0) := by rw [← m1]; exact sp5 (by omega) (by decide)
      refine ⟨nI (A 5 i 4), sI (sI τ 20 0 0 0) 21 0 (5 * i + 4) (nI u), ?_, (frM_I (by decide) (by decide)).tr (frM_I (by decide) (by decide)), (hM.thr 0).sp (by omega) (by decide), rfl, ?_⟩
      · unfold FX5_brake
        rw [isSp_in (n := ns) (τ := τ) (by omega) hM.2.2.2.2.2.2.2.1 hi, Option.bind_some, if_neg (show ¬ (1 : Int32) = 0 by decide), if_pos (show (sI τ 20 0 0 0).1 20 0 0 = 0 from rfl), hs, Option.bind_some]
        simp only [hg1, if_false]
        simp only [hg2]
        rcases (show A 5 i 4 = 0 ∨ A 5 i 4 = 1 by omega) with q | q <;> rcases (show u = 0 ∨ u = 1 by omega) with q2 | q2 <;> rw [ea, q, q2]
        · rfl
        · rfl
        · rfl
        · rfl
      · show (if σ.1 5 i 4 = 0 then (0 : Int64) else 1) = if nI (A 5 i 4) = 0 then 0 else 1
        rw [c4]
  · rw [spAt_out h4 h1, Option.bind_some, oc_n]
    refine ⟨_, _, A, rfl, frC.rf, hC, hW.up (by omega), fun τ hM => ?_⟩
    refine ⟨0, sI τ 20 0 0 1, ?_, frM_I (by decide) (by decide), hM.thr 1, rfl, (show (1 : Int32) ≠ 0 by decide)⟩
    unfold FX5_brake
    rw [isSp_out (n := ns) (τ := τ) (by omega) hM.2.2.2.2.2.2.2.1 h1, Option.bind_some, if_pos rfl, if_neg (show ¬ (sI τ 20 0 0 1).1 20 0 0 = 0 from n10)]
theorem Cm.addS {A : Ab} {ns nb : Nat} {σ : Sg} (h : Cm A ns nb σ) (w : ∀ f, A 5 ns f = 0) {v : Nat} : Cm (aU A 5 ns 0 v) (ns + 1) nb (sI (sgS σ ns (nI v)) 0 0 3 (nI (ns + 1))) := by
  obtain ⟨h1, h2, h3, h4, h5, h6, h7⟩ := h
  refine ⟨fun j hj => ?_, h2, h3, h4, h5, h6, rfl, h7.2⟩
  by_cases hji : j = ns
  · subst hji
    have e : ∀ f, (sI (sgS σ j (nI v)) 0 0 3 (nI (j + 1))).1 5 j f = if f = 0 then nI v else 0 := fun f => if_pos ⟨rfl, rfl⟩
    have e2 : ∀ f, (sI (sgS σ j (nI v)) 0 0 3 (nI (j + 1))).2 5 j f = 0 := fun f => if_pos ⟨rfl, rfl⟩
    simp only [e, e2, aU_eq, w]
    exact ⟨rfl, rfl, rfl, rfl, rfl⟩
  · obtain ⟨a0, a1, a2, a3, a4⟩ := h1 j (by omega)
    have e : ∀ f, (sI (sgS σ ns (nI v)) 0 0 3 (nI (ns + 1))).1 5 j f = σ.1 5 j f := fun f => if_neg (by omega)
    have e2 : ∀ f, (sI (sgS σ ns (nI v)) 0 0 3 (nI (ns + 1))).2 5 j f = σ.2 5 j f := fun f => if_neg (by omega)
    simp only [e, e2, aU_eq, hji, false_and, and_false, if_false]
    exact ⟨a0, a1, a2, a3, a4⟩
theorem Mm.addS {A : Ab} {ns nb : Nat} {τ : Sg} (h : Mm A ns nb τ) (h4 : ns < 4) {v : Nat} : Mm (aU A 5 ns 0 v) (ns + 1) nb (sI (sI τ 21 0 (5 * ns) (nI v)) 20 0 2 (nI (ns + 1))) := by
  have h' := h.sp (i := ns) (f := 0) (v := v) h4 (by decide)
  obtain ⟨h1, h2, h3, h4, h5, h6, h7, h8⟩ := h'
  exact ⟨h1, h2, h3, h4, h5, h6, h7, rfl, h8.2⟩
theorem Wf.addS {A : Ab} {ns nb T v : Nat} (h : Wf A ns nb T) (h4 : ns < 4) (hv : 1 ≤ v) (hv2 : v ≤ 50) : Wf (aU A 5 ns 0 v) (ns + 1) nb T := by
  obtain ⟨h1, h2, h3, ⟨h4, h4'⟩, h5, h6, h7, h8, h9, h10⟩ := h
  refine ⟨by omega, h2, h3, ⟨fun j hj => ?_, fun j hj f => ?_⟩, fun b hb => ?_, h6, h7, h8, h9, h10⟩
  · by_cases hji : j = ns
    · subst hji
      have w := h4' j (Nat.le_refl _)
      refine ⟨?_, ?_, ?_, ?_, ?_⟩ <;> simp [aU_eq, w] <;> omega
    · have := h4 j (by omega)
      simpa [aU_eq, hji] using this
  · rw [aU_eq, if_neg (by omega)]; exact h4' j (by omega) f
  · have := h5 b hb
    have hne : ¬ (2 = 0) := by decide
    simp only [aU_eq, show ¬ ((2 : Nat) = 0) by decide, show ¬ ((6 : Nat) = 5) by decide, and_false, false_and, if_false]
    exact ⟨by omega, this.2⟩
theorem addSpring_ok (T ns nb : Nat) (σ : Sg) (a1 : Int32) (h : Inv T ns nb σ) : ∃ (k bv : Int32) (σ1 σ2 : Sg), FL_addSpring ns nb σ a1 = some (k, σ1) ∧ FX5_addSpring (if k = 0 then ns + 1 else ns) nb σ1 a1 = some (bv, σ2) ∧ σ2.1 20 0 0 = k ∧ (k = 0 → σ2.2 30 0 0 = bv.toInt64) ∧ Inv (T + 1) (if k = 0 then ns + 1 else ns) nb σ2 := by
  have hW0 : ns ≤ 4 := by obtain ⟨A, -, -, hW⟩ := h; exact hW.1
  rcases rngN (a := a1) (x := 1) (y := 50) (by decide) (by decide) with q | ⟨j, j1, j2, rfl⟩
  · obtain ⟨k, bv, σ1, σ2, e1, e2, e3, e4, e5⟩ := bothW (T' := T + 1) (ns' := ns) (nb' := nb) (X4 := FX4_addSpring ns nb σ a1) (f := fun k => if k = 2 then some 1 else if k = 3 then some 2 else none) (v := Int32.toInt64) (w := Int32.toInt64) (F5 := fun τ => FX5_addSpring ns nb τ a1) h (fun A hC hW => by
      refine ⟨.inl 2, σ, A, ?_, frC.rf, hC, hW.up (by omega), fun τ hM => ?_⟩
      · unfold FX4_addSpring
        rw [in4n (show a1 < 1 ∨ 50 < a1 from q), Option.bind_some, if_pos rfl]
      · refine ⟨0, sI (sI τ 20 0 0 0) 20 0 0 1, ?_, (frM_I (by decide) (by decide)).tr (frM_I (by decide) (by decide)), (hM.thr 0).thr 1, rfl, (show (1 : Int32) ≠ 0 by decide)⟩
        unfold FX5_addSpring
        rw [in5n (show a1 < 1 ∨ 50 < a1 from q), Option.bind_some, if_pos rfl]
        rfl)
    have hk : ¬ k = 0 := by
      have e1' : FL_addSpring ns nb σ a1 = some (k, σ1) := e1
      unfold FL_addSpring FX4_addSpring at e1'
      rw [in4n (show a1 < 1 ∨ 50 < a1 from q), Option.bind_some, if_pos rfl, Option.bind_some, wr_l rfl] at e1'
      cases e1'
      decide
    refine ⟨k, bv, σ1, σ2, e1, ?_, e3, e4, ?_⟩
    · rw [if_neg hk]; exact e2
    · rw [if_neg hk]; exact e5
  · have q := in_rng (x := 1) (y := 50) j1 j2 (by decide)
    by_cases h4 : ns = 4
    · obtain ⟨k, bv, σ1, σ2, e1, e2, e3, e4, e5⟩ := bothW (T' := T + 1) (ns' := ns) (nb' := nb) (X4 := some (.inl 3, σ)) (f := fun k => if k = 2 then some 1 else if k = 3 then some 2 else none) (v := Int32.toInt64) (w := Int32.toInt64) (F5 := fun τ => FX5_addSpring ns nb τ (nI j)) h (fun A hC hW => by
        refine ⟨.inl 3, σ, A, rfl, frC.rf, hC, hW.up (by omega), fun τ hM => ?_⟩
        refine ⟨0, sI (sI τ 20 0 0 0) 20 0 0 2, ?_, (frM_I (by decide) (by decide)).tr (frM_I (by decide) (by decide)), (hM.thr 0).thr 2, rfl, (show (2 : Int32) ≠ 0 by decide)⟩
        have e : (sI τ 20 0 0 0).1 20 0 2 = 4 := by
          have := hM.2.2.2.2.2.2.2.1
          rw [h4] at this
          exact this
        unfold FX5_addSpring
        rw [in5y (show ¬ (nI j < 1 ∨ 50 < nI j) from q), Option.bind_some, if_neg n10, if_pos e]
        rfl)
      have hX : FX4_addSpring ns nb σ (nI j) = some (.inl 3, σ) := by
        obtain ⟨A, hC, -, -⟩ := h
        have e : σ.1 0 0 3 = 4 := by rw [hC.2.2.2.2.2.2.1, h4]; rfl
        unfold FX4_addSpring
        rw [in4y (show ¬ (nI j < 1 ∨ 50 < nI j) from q), Option.bind_some, if_neg n10]
        dsimp only
        rw [e, if_neg (by decide), if_neg (by decide)]
      have hk : ¬ k = 0 := by
        rw [Option.bind_some, wr_l rfl] at e1
        cases e1
        decide
      refine ⟨k, bv, σ1, σ2, ?_, ?_, e3, e4, ?_⟩
      · unfold FL_addSpring; rw [hX]; exact e1
      · rw [if_neg hk]; exact e2
      · rw [if_neg hk]; exact e5
    · have hX : FX4_addSpring ns nb σ (nI j) = some (.inr (nI ns), sI (sgS σ ns (nI j)) 0 0 3 (nI (ns + 1))) := by
        obtain ⟨A, hC, -, -⟩ := h
        have e : σ.1 0 0 3 = nI ns := hC.2.2.2.2.2.2.1
        have e' : (sgS σ ns (nI j)).1 0 0 3 = nI ns := e
        unfold FX4_addSpring
        rw [in4y (show ¬ (nI j < 1 ∨ 50 < nI j) from q), Option.bind_some, if_neg n10]
        dsimp only
        rw [e, e', if_neg (nI_pos (by omega)), if_pos (show nI ns < (4 : Int32) from nI_lt (b := 4) (by omega) (by decide)), if_neg (nI_in (by omega) (by decide)), nI_clamp (by omega), if_pos rfl, nI_1]
      obtain ⟨k, bv, σ1, σ2, e1, e2, e3, e4, e5⟩ := bothW (T' := T + 1) (ns' := ns + 1) (nb' := nb) (X4 := some (.inr (nI ns), sI (sgS σ ns (nI j)) 0 0 3 (nI (ns + 1)))) (f := fun k => if k = 2 then some 1 else if k = 3 then some 2 else none) (v := Int32.toInt64) (w := Int32.toInt64) (F5 := fun τ => FX5_addSpring (ns + 1) nb τ (nI j)) h (fun A hC hW => by
        refine ⟨_, _, aU A 5 ns 0 j, rfl, ?_, hC.addS (hW.2.2.2.1.2 ns (Nat.le_refl _)), (hW.addS (by omega) j1 j2).up (by omega), fun τ hM => ?_⟩
        · intro k i f hk
          exact ⟨(if_neg (by omega)).trans (if_neg (by omega)), if_neg (by omega)⟩
        have e : (sI τ 20 0 0 0).1 20 0 2 = nI ns := hM.2.2.2.2.2.2.2.1
        have e' : ∀ x, (sI (sI τ 20 0 0 0) 21 0 x (nI j)).1 20 0 2 = nI ns := fun x => e
        have hg := ix5 (i := ns) (f := 0) (by omega) (by decide)
        have e5 : 5 * nI ns + nI 0 = 5 * nI ns := by rw [nI_0]; exact Int32.add_zero _
        rw [e5] at hg
        refine ⟨nI ns, sI (sI (sI τ 20 0 0 0) 21 0 (5 * ns) (nI j)) 20 0 2 (nI (ns + 1)), ?_, ((frM_I (by decide) (by decide)).tr (frM_I (by decide) (by decide))).tr (frM_I (by decide) (by decide)), (hM.thr 0).addS (by omega), rfl, rfl⟩
        unfold FX5_addSpring
        rw [in5y (show ¬ (nI j < 1 ∨ 50 < nI j) from q), Option.bind_some, if_neg n10]
        dsimp only
        rw [e, if_neg (show ¬ nI ns = (4 : Int32) from fun q => h4 ((nI_eq (b := 4) (by omega) (by decide)).mp q)), if_neg hg.1, e', nI_1, sI_eq, if_pos ⟨rfl, rfl, rfl⟩, nI_pred, hg.2]
        rfl)
      have hk : k = 0 := by
        rw [Option.bind_some, wr_r rfl] at e1
        cases e1
        rfl
      refine ⟨k, bv, σ1, σ2, ?_, ?_, e3, e4, ?_⟩
      · unfold FL_addSpring; rw [hX]; exact e1
      · rw [if_pos hk]; exact e2
      · rw [if_pos hk]; exact e5
