/-! WIND, BRAKE -/
theorem Cm.sp {A : Ab} {ns nb : Nat} {σ : Sg} (h : Cm A ns nb σ) {i f v : Nat} (hf : f = 1 ∨ f = 3 ∨ f = 4) : Cm (aU A 5 i f v) ns nb (sI σ 5 i f (nI v)) := by
  obtain ⟨h1, h2, h3, h4, h5, h6, h7⟩ := h
  refine ⟨fun j hj => ?_, h2, h3, h4, h5, h6, h7⟩
  obtain ⟨a0, a1, a2, a3, a4⟩ := h1 j hj
  by_cases hji : j = i
  · subst hji
    rcases hf with rfl | rfl | rfl <;> simp [sI_eq, sI_2, aU_eq, a0, a1, a2, a3, a4]
  · simp only [sI_eq, sI_2, aU_eq, hji, false_and, and_false, if_false]
    exact ⟨a0, a1, a2, a3, a4⟩
theorem Mm.sp {A : Ab} {ns nb : Nat} {τ : Sg} (h : Mm A ns nb τ) {i f v : Nat} (hi : i < 4) (hf : f < 5) : Mm (aU A 5 i f v) ns nb (sI τ 21 0 (5 * i + f) (nI v)) := by
  obtain ⟨h1, h2, h3, h4, h5, h6, h7, h8⟩ := h
  refine ⟨fun j hj k hk => ?_, h2, h3, h4, h5, h6, h7, h8⟩
  have := h1 j hj k hk
  by_cases hji : j = i ∧ k = f
  · obtain ⟨rfl, rfl⟩ := hji
    simp [sI_eq, aU_eq]
  · have e : ¬ (5 * j + k = 5 * i + f) := by omega
    have e2 : ¬ (j = i ∧ k = f) := hji
    simp only [sI_eq, aU_eq, e, and_false, if_false]
    rw [if_neg (by intro q; exact e2 q.2)]
    exact this
theorem Mm.thr {A : Ab} {ns nb : Nat} {τ : Sg} (h : Mm A ns nb τ) (v : Int32) : Mm A ns nb (sI τ 20 0 0 v) := by
  obtain ⟨h1, h2, h3, h4, h5, h6, h7, h8⟩ := h
  exact ⟨h1, h2, h3, h4, h5, h6, h7, h8⟩
theorem frC_I {σ : Sg} {k i f : Nat} {v : Int32} (h : k < 13) : frC σ (sI σ k i f v) := fun k' i' f' hk => ⟨if_neg (by omega), rfl⟩
theorem frC_L {σ : Sg} {k i f : Nat} {v : Int64} (h : k < 13) : frC σ (sL σ k i f v) := fun k' i' f' hk => ⟨rfl, if_neg (by omega)⟩
theorem frM_I {σ : Sg} {k i f : Nat} {v : Int32} (h : 20 ≤ k) (h2 : k < 30) : frM σ (sI σ k i f v) := fun k' i' f' hk => ⟨if_neg (by omega), rfl⟩
theorem Wf.held {A : Ab} {ns nb T i v : Nat} (h : Wf A ns nb T) (hi : i < ns) (hv : v ≤ 200000) : Wf (aU A 5 i 1 v) ns nb T := by
  obtain ⟨h1, h2, h3, ⟨h4, h4'⟩, h5, h6, h7, h8, h9, h10⟩ := h
  refine ⟨h1, h2, h3, ⟨fun j hj => ?_, fun j hj f => ?_⟩, fun b hb => ?_, h6, h7, h8, h9, h10⟩
  · obtain ⟨b1, b2, b3, b4, b5⟩ := h4 j hj
    refine ⟨by simpa [aU_eq] using b1, by simpa [aU_eq] using b2, ?_, by simpa [aU_eq] using b4, by simpa [aU_eq] using b5⟩
    rw [aU_eq]
    by_cases q : 5 = 5 ∧ j = i ∧ 1 = 1
    · rw [if_pos q]; exact hv
    · rw [if_neg q]; exact b3
  · rw [aU_eq, if_neg (by omega)]; exact h4' j hj f
  · have := h5 b hb
    simp only [aU_eq, show ¬ ((2 : Nat) = 1) by decide, show ¬ ((6 : Nat) = 5) by decide, and_false, false_and, if_false]
    exact this
/-- a throwing call's two answers agree -/
def Ag (f : Nat → Option Int32) (v w : Int32 → Int64) (z : Nat ⊕ Int32) (τ : Sg) (bv : Int32) : Prop := match z with
  | .inl k => f k = some (τ.1 20 0 0) ∧ τ.1 20 0 0 ≠ 0
  | .inr r => τ.1 20 0 0 = 0 ∧ v r = w bv
theorem bothW {T ns nb T' ns' nb' : Nat} {σ : Sg} {X4 : Option ((Nat ⊕ Int32) × Sg)} {F5 : Sg → Option (Int32 × Sg)} {f : Nat → Option Int32} {v w : Int32 → Int64} (h : Inv T ns nb σ)
    (hs : ∀ A, Cm A ns nb σ → Wf A ns nb T → ∃ (z : Nat ⊕ Int32) (σ1 : Sg) (A' : Ab), X4 = some (z, σ1) ∧ frC σ σ1 ∧ Cm A' ns' nb' σ1 ∧ Wf A' ns' nb' T' ∧ ∀ τ, Mm A ns nb τ → ∃ (bv : Int32) (τ1 : Sg), F5 τ = some (bv, τ1) ∧ frM τ τ1 ∧ Mm A' ns' nb' τ1 ∧ Ag f v w z τ1 bv) :
    ∃ (k bv : Int32) (σ1 σ2 : Sg), X4.bind (wr f v) = some (k, σ1) ∧ F5 σ1 = some (bv, σ2) ∧ σ2.1 20 0 0 = k ∧ (k = 0 → σ2.2 30 0 0 = w bv) ∧ Inv T' ns' nb' σ2 := by
  obtain ⟨A, hC, hM, hW⟩ := h
  obtain ⟨z, σ1, A', e1, f1, c1, w1, hm⟩ := hs A hC hW
  cases z with
  | inl k =>
    obtain ⟨bv, σ2, e2, f2, m2, ha, hb⟩ := hm σ1 (hM.fr f1)
    refine ⟨σ2.1 20 0 0, bv, σ1, σ2, ?_, e2, rfl, fun q => absurd q hb, A', c1.fr f2, m2, w1⟩
    rw [e1, Option.bind_some, wr_l rfl, ha]
    rfl
  | inr r =>
    have hM1 : Mm A ns nb σ1 := hM.fr f1
    obtain ⟨bv, σ2, e2, f2, m2, ha, hb⟩ := hm (sL σ1 30 0 (0 : Int32).toNatClampNeg (v r)) hM1
    refine ⟨0, bv, _, σ2, ?_, e2, ha, fun _ => ?_, A', Cm.fr (σ := sL σ1 30 0 (0 : Int32).toNatClampNeg (v r)) c1 f2, m2, w1⟩
    · rw [e1, Option.bind_some, wr_r rfl]
    · rw [(f2 30 0 0 (Or.inr rfl)).2, ← hb]
      rw [sL_eq, if_pos ⟨rfl, rfl, rfl⟩]
theorem n10 : ¬ ((1 : Int32) = 0) := by decide
theorem Wf.up {A : Ab} {ns nb T T' : Nat} (h : Wf A ns nb T) (hT : T ≤ T') : Wf A ns nb T' := by
  obtain ⟨h1, h2, h3, h4⟩ := h
  exact ⟨h1, h2, by omega, h4⟩
theorem wind_ok (T ns nb : Nat) (σ : Sg) (a1 a2 : Int32) (h : Inv T ns nb σ) : ∃ (k bv : Int32) (σ1 σ2 : Sg), FL_wind ns nb σ a1 a2 = some (k, σ1) ∧ FX5_wind ns nb σ1 a1 a2 = some (bv, σ2) ∧ σ2.1 20 0 0 = k ∧ (k = 0 → σ2.2 30 0 0 = bv.toInt64) ∧ Inv (T + 1) ns nb σ2 := by
  refine bothW (F5 := fun τ => FX5_wind ns nb τ a1 a2) h (fun A hC hW => ?_)
  have h4 : ns ≤ 4 := hW.1
  unfold FX4_wind
  by_cases h1 : vp_in a1 ns
  · obtain ⟨i, hi, rfl⟩ := vp_in_of h1 (by omega)
    rw [spAt_in h4 hi, Option.bind_some, oc_s, if_pos hi]
    rcases rngN (a := a2) (x := 1) (y := 200000) (by decide) (by decide) with q | ⟨j, j1, j2, rfl⟩
    · rw [in4n (show a2 < 1 ∨ 200000 < a2 from q), Option.bind_some, if_pos rfl]
      refine ⟨_, _, A, rfl, frC.rf, hC, hW.up (by omega), fun τ hM => ?_⟩
      refine ⟨0, sI (sI τ 20 0 0 0) 20 0 0 2, ?_, (frM_I (by decide) (by decide)).tr (frM_I (by decide) (by decide)), (hM.thr 0).thr 2, rfl, (show (2 : Int32) ≠ 0 by decide)⟩
      unfold FX5_wind
      rw [isSp_in (n := ns) (τ := sI τ 20 0 0 0) (by omega) hM.2.2.2.2.2.2.2.1 hi, Option.bind_some, if_neg (show ¬ (1 : Int32) = 0 by decide), in5n (show a2 < 1 ∨ 200000 < a2 from q), Option.bind_some, if_pos rfl]
      rfl
    · have q := in_rng (x := 1) (y := 200000) j1 j2 (by decide)
      obtain ⟨b1, b2, b3, b4, b5⟩ := hW.2.2.2.1.1 i hi
      obtain ⟨c0, c1, c2, c3, c4⟩ := hC.1 i hi
      have ev : mnI (σ.1 5 i 1 + nI j) 200000 = nI (min (A 5 i 1 + j) 200000) := by
        rw [c1, nI_add]; exact mn_nI (by omega) (by decide)
      rw [in4y (show ¬ (nI j < 1 ∨ 200000 < nI j) from q), Option.bind_some, if_neg (show ¬ (1 : Int32) = 0 by decide)]
      refine ⟨_, _, aU A 5 i 1 (min (A 5 i 1 + j) 200000), rfl, frC_I (by decide), ?_, (hW.held hi (by omega)).up (by omega), fun τ hM => ?_⟩
      · show Cm _ ns nb (sI σ 5 i 1 (mnI (σ.1 5 i 1 + nI j) 200000))
        rw [ev]
        exact hC.sp (Or.inl rfl)
      · have m1 : (sI τ 20 0 0 0).1 21 0 (5 * i + 1) = nI (A 5 i 1) := hM.1 i (by omega) 1 (by decide)
        have ew : mnI 200000 ((sI τ 20 0 0 0).1 21 0 (5 * i + 1) + nI j) = nI (min (A 5 i 1 + j) 200000) := by
          rw [m1, nI_add, Nat.min_comm]; exact mn_nI (by decide) (by omega)
        have hg := ix5 (i := i) (f := 1) (by omega) (by decide)
        refine ⟨nI (min (A 5 i 1 + j) 200000), sI (sI τ 20 0 0 0) 21 0 (5 * i + 1) (nI (min (A 5 i 1 + j) 200000)), ?_, (frM_I (by decide) (by decide)).tr (frM_I (by decide) (by decide)), (hM.thr 0).sp (by omega) (by decide), rfl, ?_⟩
        · unfold FX5_wind
          rw [isSp_in (n := ns) (τ := sI τ 20 0 0 0) (by omega) hM.2.2.2.2.2.2.2.1 hi, Option.bind_some, if_neg (show ¬ (1 : Int32) = 0 by decide), in5y (show ¬ (nI j < 1 ∨ 200000 < nI j) from q), Option.bind_some, if_neg (show ¬ (1 : Int32) = 0 by decide)]
          have hg1 : ¬ ((5 * nI i + 1) < 0 ∨ 20 ≤ (5 * nI i + 1).toNatClampNeg) := hg.1
          have hg2 : (5 * nI i + 1).toNatClampNeg = 5 * i + 1 := hg.2
          rw [if_neg hg1, if_neg hg1, if_neg hg1, hg2, ew, sI_eq, if_pos ⟨rfl, rfl, rfl⟩]
        · show Int32.toInt64 ((sI σ 5 i 1 (mnI (σ.1 5 i 1 + nI j) 200000)).1 5 i 1) = _
          rw [sI_eq, if_pos ⟨rfl, rfl, rfl⟩, ev]
  · rw [spAt_out h4 h1, Option.bind_some, oc_n]
    refine ⟨_, _, A, rfl, frC.rf, hC, hW.up (by omega), fun τ hM => ?_⟩
    refine ⟨0, sI (sI τ 20 0 0 0) 20 0 0 1, ?_, (frM_I (by decide) (by decide)).tr (frM_I (by decide) (by decide)), (hM.thr 0).thr 1, rfl, (show (1 : Int32) ≠ 0 by decide)⟩
    unfold FX5_wind
    rw [isSp_out (n := ns) (τ := sI τ 20 0 0 0) (by omega) hM.2.2.2.2.2.2.2.1 h1, Option.bind_some, if_pos rfl]
    rfl
