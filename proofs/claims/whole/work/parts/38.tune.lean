/-! TUNE, SUNG, EMPTYSONGS -/
theorem ixg (c : Nat) {i f N : Nat} (h : c * i + f < N) (hN : N < 2 ^ 31) : ¬ ((nI c * nI i + nI f) < 0 ∨ N ≤ (nI c * nI i + nI f).toNatClampNeg) ∧ (nI c * nI i + nI f).toNatClampNeg = c * i + f := by
  have e : nI c * nI i + nI f = nI (c * i + f) := by rw [pk_mul, nI_add]
  rw [e]
  exact ⟨nI_in h hN, nI_clamp (by omega)⟩
theorem at4 {ns nb k i j N : Nat} {σ : Sg} (hk : aln k = N) (hN : N < 2 ^ 31) (hj : j < N) : FX4_at ns nb σ k i (nI j) = some (σ.1 k i j, σ) := by
  unfold FX4_at
  rw [hk, if_neg (nI_pos (by omega)), if_neg (show ¬ (Int32.ofNat N ≤ nI j) from nI_ge hj hN), if_neg (nI_in hj hN), nI_clamp (by omega)]
theorem put4 {ns nb k i j N : Nat} {σ : Sg} {v : Int32} (hk : aln k = N) (hN : N < 2 ^ 31) (hj : j < N) : FX4_put ns nb σ k i (nI j) v = some (sI σ k i j v) := by
  unfold FX4_put
  rw [hk, if_neg (nI_pos (by omega)), if_neg (show ¬ (Int32.ofNat N ≤ nI j) from nI_ge hj hN), if_neg (nI_in hj hN), nI_clamp (by omega)]
theorem Cm.nt {A : Ab} {ns nb : Nat} {σ : Sg} (h : Cm A ns nb σ) {b x v : Nat} : Cm (aU A 8 b x v) ns nb (sI σ 8 b x (nI v)) := by
  obtain ⟨h1, h2, h3, h4, h5, h6, h7⟩ := h
  refine ⟨h1, h2, h3, fun j hj y hy => ?_, h5, h6, h7⟩
  rw [sI_eq, aU_eq]
  by_cases q : 8 = 8 ∧ j = b ∧ y = x
  · rw [if_pos q, if_pos q]
  · rw [if_neg q, if_neg q]; exact h4 j hj y hy
theorem Mm.nt {A : Ab} {ns nb : Nat} {τ : Sg} (h : Mm A ns nb τ) {b x v : Nat} (hx : x < 6) : Mm (aU A 8 b x v) ns nb (sI τ 25 0 (6 * b + x) (nI v)) := by
  obtain ⟨h1, h2, h3, h4, h5, h6, h7, h8⟩ := h
  refine ⟨h1, h2, h3, fun j hj y hy => ?_, h5, h6, h7, h8⟩
  rw [sI_eq, aU_eq]
  by_cases q : 8 = 8 ∧ j = b ∧ y = x
  · rw [if_pos q, if_pos ⟨rfl, rfl, by omega⟩]
  · rw [if_neg q, if_neg (by omega)]; exact h4 j hj y hy
theorem Wf.nt {A : Ab} {ns nb T b x v : Nat} (h : Wf A ns nb T) (hv : v ≤ 87) : Wf (aU A 8 b x v) ns nb T := by
  obtain ⟨h1, h2, h3, h4, h5, h6, h7, h8, h9, h10⟩ := h
  refine ⟨h1, h2, h3, h4, h5, h6, fun j y => ?_, h8, h9, h10⟩
  rw [aU_eq]
  by_cases q : 8 = 8 ∧ j = b ∧ y = x
  · rw [if_pos q]; exact hv
  · rw [if_neg q]; exact h7 j y
/-- a refusal at once -/
theorem ref1 {A : Ab} {ns nb : Nat} {τ : Sg} {X5 : Option (Int32 × Sg)} {f : Nat → Option Int32} {v w : Int32 → Int64} {k : Nat} {x y : Int32} (hM : Mm A ns nb τ) (hF : X5 = (FX5_fail ns nb (sI τ 20 0 0 y) x).bind fun z => some (z.1, z.2)) (hf : f k = some x) (hx : x ≠ 0) : ∃ (bv : Int32) (τ1 : Sg), X5 = some (bv, τ1) ∧ frM τ τ1 ∧ Mm A ns nb τ1 ∧ Ag f v w (.inl k) τ1 bv :=
  ⟨0, sI (sI τ 20 0 0 y) 20 0 0 x, hF, (frM_I (by decide) (by decide)).tr (frM_I (by decide) (by decide)), (hM.thr y).thr x, hf, hx⟩
theorem tune_ok (T ns nb : Nat) (σ : Sg) (a1 a2 a3 : Int32) (h : Inv T ns nb σ) : ∃ (k bv : Int32) (σ1 σ2 : Sg), FL_tune ns nb σ a1 a2 a3 = some (k, σ1) ∧ FX5_tune ns nb σ1 a1 a2 a3 = some (bv, σ2) ∧ σ2.1 20 0 0 = k ∧ (k = 0 → σ2.2 30 0 0 = bv.toInt64) ∧ Inv (T + 1) ns nb σ2 := by
  refine bothW (F5 := fun τ => FX5_tune ns nb τ a1 a2 a3) h (fun A hC hW => ?_)
  have h8 : nb ≤ 8 := hW.2.1
  unfold FX4_tune
  by_cases h1 : vp_in a1 nb
  · obtain ⟨b, hb, rfl⟩ := vp_in_of h1 (by omega)
    rw [bdAt_in h8 hb, Option.bind_some, oc_s, if_pos hb]
    rcases rngN (a := a2) (x := 0) (y := 5) (by decide) (by decide) with q | ⟨l, l1, l2, rfl⟩
    · rw [in4n (show a2 < 0 ∨ 5 < a2 from q), Option.bind_some, if_pos rfl]
      refine ⟨_, _, A, rfl, frC.rf, hC, hW.up (by omega), fun τ hM => ref1 (x := 1) (y := 0) hM ?_ rfl (by decide)⟩
      (try dsimp only)
      unfold FX5_tune
      rw [isBd_in (n := nb) (τ := sI τ 20 0 0 0) (by omega) hM.2.2.2.2.2.2.2.2.1 hb, Option.bind_some, if_neg n10, in5n (show a2 < 0 ∨ 5 < a2 from q), Option.bind_some, if_pos rfl]
    · have q := in_rng (x := 0) (y := 5) l1 l2 (by decide)
      rw [in4y (show ¬ (nI l < 0 ∨ 5 < nI l) from q), Option.bind_some, if_neg n10]
      rcases rngN (a := a3) (x := 0) (y := 87) (by decide) (by decide) with q3 | ⟨j, j1, j2, rfl⟩
      · rw [in4n (show a3 < 0 ∨ 87 < a3 from q3), Option.bind_some, if_pos rfl]
        refine ⟨_, _, A, rfl, frC.rf, hC, hW.up (by omega), fun τ hM => ref1 (x := 2) (y := 0) hM ?_ rfl (by decide)⟩
        (try dsimp only)
        unfold FX5_tune
        rw [isBd_in (n := nb) (τ := sI τ 20 0 0 0) (by omega) hM.2.2.2.2.2.2.2.2.1 hb, Option.bind_some, if_neg n10, in5y (show ¬ (nI l < 0 ∨ 5 < nI l) from q), Option.bind_some, if_neg n10, in5n (show a3 < 0 ∨ 87 < a3 from q3), Option.bind_some, if_pos rfl]
      · have q3 := in_rng (x := 0) (y := 87) j1 j2 (by decide)
        have c1 : σ.1 8 b l = nI (A 8 b l) := hC.2.2.2.1 b hb l (by omega)
        rw [in4y (show ¬ (nI j < 0 ∨ 87 < nI j) from q3), Option.bind_some, if_neg n10, at4 (k := 8) (N := 6) rfl (by decide) (by omega), Option.bind_some, put4 (k := 8) (N := 6) rfl (by decide) (by omega), Option.bind_some]
        refine ⟨_, _, aU A 8 b l j, rfl, frC_I (by decide), hC.nt, (hW.nt j2).up (by omega), fun τ hM => ?_⟩
        have m1 : (sI τ 20 0 0 0).1 25 0 (6 * b + l) = nI (A 8 b l) := hM.2.2.2.1 b hb l (by omega)
        have hg := ixg 6 (i := b) (f := l) (N := 48) (by omega) (by decide)
        refine ⟨nI (A 8 b l), sI (sI τ 20 0 0 0) 25 0 (6 * b + l) (nI j), ?_, (frM_I (by decide) (by decide)).tr (frM_I (by decide) (by decide)), (hM.thr 0).nt (by omega), rfl, congrArg Int32.toInt64 c1⟩
        (try dsimp only)
        unfold FX5_tune
        rw [isBd_in (n := nb) (τ := sI τ 20 0 0 0) (by omega) hM.2.2.2.2.2.2.2.2.1 hb, Option.bind_some, if_neg n10, in5y (show ¬ (nI l < 0 ∨ 5 < nI l) from q), Option.bind_some, if_neg n10, in5y (show ¬ (nI j < 0 ∨ 87 < nI j) from q3), Option.bind_some, if_neg n10]
        have hg1 : ¬ ((6 * nI b + nI l) < 0 ∨ 48 ≤ (6 * nI b + nI l).toNatClampNeg) := hg.1
        have hg2 : (6 * nI b + nI l).toNatClampNeg = 6 * b + l := hg.2
        rw [if_neg hg1, if_neg hg1, hg2, m1]
  · rw [bdAt_out h8 h1, Option.bind_some, oc_n]
    refine ⟨_, _, A, rfl, frC.rf, hC, hW.up (by omega), fun τ hM => ref1 (x := 1) (y := 0) hM ?_ rfl (by decide)⟩
    (try dsimp only)
    unfold FX5_tune
    rw [isBd_out (n := nb) (τ := sI τ 20 0 0 0) (by omega) hM.2.2.2.2.2.2.2.2.1 h1, Option.bind_some, if_pos rfl]
theorem sung_ok (T ns nb : Nat) (σ : Sg) (a1 a2 : Int32) (h : Inv T ns nb σ) : ∃ (k bv : Int32) (σ1 σ2 : Sg), FL_sung ns nb σ a1 a2 = some (k, σ1) ∧ FX5_sung ns nb σ1 a1 a2 = some (bv, σ2) ∧ σ2.1 20 0 0 = k ∧ (k = 0 → σ2.2 30 0 0 = bv.toInt64) ∧ Inv (T + 1) ns nb σ2 := by
  refine bothW (F5 := fun τ => FX5_sung ns nb τ a1 a2) h (fun A hC hW => ?_)
  have h250 : A 3 0 1 ≤ 250 := hW.2.2.2.2.2.2.2.2.1.1
  have ek : σ.1 3 0 1 = nI (A 3 0 1) := hC.2.2.2.2.2.1.1
  unfold FX4_sung
  by_cases h1 : vp_in a1 (A 3 0 1)
  · have q1 : ¬ (a1 < 0 ∨ nI (A 3 0 1) - 1 < a1) := by rw [rng0 (by omega)]; exact fun z => z h1
    obtain ⟨i, hi, rfl⟩ := vp_in_of h1 (by omega)
    rw [ek, in4y q1, Option.bind_some, if_neg n10]
    rcases rngN (a := a2) (x := 0) (y := 3) (by decide) (by decide) with q | ⟨l, l1, l2, rfl⟩
    · rw [in4n (show a2 < 0 ∨ 3 < a2 from q), Option.bind_some, if_pos rfl]
      refine ⟨_, _, A, rfl, frC.rf, hC, hW.up (by omega), fun τ hM => ref1 (x := 1) (y := 0) hM ?_ rfl (by decide)⟩
      have em : (sI τ 20 0 0 0).1 20 0 11 = nI (A 3 0 1) := hM.2.2.2.2.2.1.1
      (try dsimp only)
      unfold FX5_sung
      rw [em, in5y q1, Option.bind_some, if_neg n10, in5n (show a2 < 0 ∨ 3 < a2 from q), Option.bind_some, if_pos rfl]
    · have q := in_rng (x := 0) (y := 3) l1 l2 (by decide)
      have c1 : σ.1 4 0 (4 * i + l) = nI (A 4 0 (4 * i + l)) := hC.2.2.2.2.2.1.2.2 _ (by omega)
      have e4 : nI i * 4 + nI l = nI (4 * i + l) := by rw [show (4 : Int32) = nI 4 from rfl, pk_mul, nI_add, Nat.mul_comm]
      rw [in4y (show ¬ (nI l < 0 ∨ 3 < nI l) from q), Option.bind_some, if_neg n10]
      unfold FX2_told
      rw [e4, at4 (k := 4) (N := 1000) rfl (by decide) (by omega), Option.bind_some, Option.bind_some]
      refine ⟨_, _, A, rfl, frC.rf, hC, hW.up (by omega), fun τ hM => ?_⟩
      have em : (sI τ 20 0 0 0).1 20 0 11 = nI (A 3 0 1) := hM.2.2.2.2.2.1.1
      have m1 : (sI τ 20 0 0 0).1 27 0 (4 * i + l) = nI (A 4 0 (4 * i + l)) := hM.2.2.2.2.2.1.2.2 _ (by omega)
      have hg := ixg 4 (i := i) (f := l) (N := 1000) (by omega) (by decide)
      refine ⟨nI (A 4 0 (4 * i + l)), sI τ 20 0 0 0, ?_, frM_I (by decide) (by decide), hM.thr 0, rfl, congrArg Int32.toInt64 c1⟩
      (try dsimp only)
      unfold FX5_sung
      rw [em, in5y q1, Option.bind_some, if_neg n10, in5y (show ¬ (nI l < 0 ∨ 3 < nI l) from q), Option.bind_some, if_neg n10]
      have hg1 : ¬ ((4 * nI i + nI l) < 0 ∨ 1000 ≤ (4 * nI i + nI l).toNatClampNeg) := hg.1
      have hg2 : (4 * nI i + nI l).toNatClampNeg = 4 * i + l := hg.2
      rw [if_neg hg1, hg2, m1]
  · have q1 : a1 < 0 ∨ nI (A 3 0 1) - 1 < a1 := (rng0 (by omega)).mpr h1
    rw [ek, in4n q1, Option.bind_some, if_pos rfl]
    refine ⟨_, _, A, rfl, frC.rf, hC, hW.up (by omega), fun τ hM => ref1 (x := 1) (y := 0) hM ?_ rfl (by decide)⟩
    have em : (sI τ 20 0 0 0).1 20 0 11 = nI (A 3 0 1) := hM.2.2.2.2.2.1.1
    (try dsimp only)
    unfold FX5_sung
    rw [em, in5n q1, Option.bind_some, if_pos rfl]
/-- no songs -/
def emA (A : Ab) : Ab := aU (aU A 3 0 1 0) 3 0 2 0
theorem emptySongs_ok (T ns nb : Nat) (σ : Sg) (h : Inv T ns nb σ) : ∃ (r : Int32) (σ1 σ2 : Sg), FX4_emptySongs ns nb σ = some (r, σ1) ∧ FX5_emptySongs ns nb σ1 = some (r, σ2) ∧ Inv (T + 1) ns nb σ2 := by
  obtain ⟨r, q, σ1, σ2, e1, e2, rfl, -, e3⟩ := both (T' := T + 1) (ns' := ns) (nb' := nb) (P := fun r q => r = q) (FC := fun σ => FX4_emptySongs ns nb σ) (FM := fun τ => FX5_emptySongs ns nb τ) h (fun A hC hW => by
    refine ⟨σ.1 3 0 1, sI (sI σ 3 0 1 0) 3 0 2 0, emA A, rfl, (frC_I (by decide)).tr (frC_I (by decide)), ?_, ?_, fun τ hM => ?_⟩
    · obtain ⟨h1, h2, h3, h4, h5, h6, h7⟩ := hC
      exact ⟨h1, h2, h3, h4, h5, ⟨rfl, rfl, fun j hj => absurd hj (Nat.not_lt_zero j)⟩, h7⟩
    · obtain ⟨h1, h2, h3, h4, h5, h6, h7, h8, h9, h10⟩ := hW
      exact ⟨h1, h2, (show A 0 0 6 ≤ 500 * (T + 1) by omega), h4, h5, h6, h7, h8, ⟨Nat.zero_le _, fun j hj => absurd hj (Nat.not_lt_zero j)⟩, h10⟩
    · refine ⟨nI (A 3 0 1), sI (sI (sI τ 20 0 0 0) 20 0 11 0) 20 0 10 0, ?_, ((frM_I (by decide) (by decide)).tr (frM_I (by decide) (by decide))).tr (frM_I (by decide) (by decide)), ?_, hC.2.2.2.2.2.1.1⟩
      · have em : (sI τ 20 0 0 0).1 20 0 11 = nI (A 3 0 1) := hM.2.2.2.2.2.1.1
        (try dsimp only)
        unfold FX5_emptySongs
        rw [em]
      · obtain ⟨h1, h2, h3, h4, h5, h6, h7, h8⟩ := hM
        exact ⟨h1, h2, h3, h4, h5, ⟨rfl, rfl, fun j hj => absurd hj (Nat.not_lt_zero j)⟩, h7, h8⟩)
  exact ⟨r, σ1, σ2, e1, e2, e3⟩
