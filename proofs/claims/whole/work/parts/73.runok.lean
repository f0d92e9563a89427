/-! RUN -/
theorem Wf.cap {A : Ab} {ns nb T T' : Nat} (h : Wf A ns nb T) (ht : A 0 0 6 ≤ 500 * T') : Wf A ns nb T' := ⟨h.1, h.2.1, ht, h.2.2.2⟩
theorem thr_k {τ : Sg} {v : Int32} : kN τ ≤ kN (sI τ 20 0 0 v) := by
  unfold kN
  exact Nat.le_refl _
theorem rnC {ns nb T j : Nat} (hT : T ≤ 516) (hj : j < 100000) : ∀ (m i c fuel : Nat) (A : Ab) (σ : Sg), i + m = j → m < fuel → Wf A ns nb T → A 0 0 6 + m ≤ 500 * T → Cm A ns nb σ → ∃ σ' : Sg, LX4_run_25 ns nb (nI j) fuel (nI c) (nI i) σ = some (nI (c + (runA ns nb m A 3 0 2 - A 3 0 2)), σ') ∧ okC σ σ' ∧ Cm (runA ns nb m A) ns nb σ' := by
  intro m
  induction m with
  | zero =>
    intro i c fuel A σ hi hf hW ht hC
    obtain ⟨u, rfl⟩ : ∃ u, fuel = u + 1 := ⟨fuel - 1, by omega⟩
    refine ⟨σ, ?_, okC.rf, hC⟩
    rw [LX4_run_25, if_pos (nI_le (by omega) (by omega)), runA, Nat.sub_self, Nat.add_zero]
  | succ m ih =>
    intro i c fuel A σ hi hf hW ht hC
    obtain ⟨u, rfl⟩ : ∃ u, fuel = u + 1 := ⟨fuel - 1, by omega⟩
    obtain ⟨n1, n2, n3⟩ := tick_ok (ns := ns) (nb := nb) hW (by omega)
    obtain ⟨σ1, p1, p2, p3⟩ := tickC hC hW hT (by omega)
    obtain ⟨σ', t1, t2, t3⟩ := ih (i + 1) (c + (tickA ns nb A 3 0 2 - A 3 0 2)) u _ σ1 (by omega) (by omega) n1 (by omega) p3
    have hle := (run_in (ns := ns) (nb := nb) m _ n1 (by omega)).2.1.2.1
    have hle2 := n2.2.1
    rw [LX4_run_25, if_neg (nI_ge (by omega) (by omega)), p1, Option.bind_some, runA]
    dsimp only
    rw [nI_add, nI_1, t1]
    refine ⟨σ', ?_, p2.tr t2, t3⟩
    congr 2
    congr 1
    omega
theorem rnM {ns nb T j : Nat} {g : Int32} {v2 : Int32} (hT : T ≤ 516) (hj : j < 100000) : ∀ (m i fuel : Nat) (A : Ab) (τ : Sg), i + m = j → m < fuel → Wf A ns nb T → A 0 0 6 + m ≤ 500 * T → Mx A ns nb g τ → ∃ τ' : Sg, LX5_run_29 ns nb (nI j) v2 fuel (nI i) τ = some τ' ∧ okM g τ τ' ∧ Mx (runA ns nb m A) ns nb g τ' := by
  intro m
  induction m with
  | zero =>
    intro i fuel A τ hi hf hW ht hM
    obtain ⟨u, rfl⟩ : ∃ u, fuel = u + 1 := ⟨fuel - 1, by omega⟩
    refine ⟨τ, ?_, okM.rf, hM⟩
    rw [LX5_run_29, if_pos (nI_le (by omega) (by omega))]
  | succ m ih =>
    intro i fuel A τ hi hf hW ht hM
    obtain ⟨u, rfl⟩ : ∃ u, fuel = u + 1 := ⟨fuel - 1, by omega⟩
    obtain ⟨n1, n2, n3⟩ := tick_ok (ns := ns) (nb := nb) hW (by omega)
    obtain ⟨τ1, p1, p2, p3⟩ := tickM hM hW hT (by omega)
    obtain ⟨τ', t1, t2, t3⟩ := ih (i + 1) u _ τ1 (by omega) (by omega) n1 (by omega) p3
    rw [LX5_run_29, if_neg (nI_ge (by omega) (by omega)), p1, Option.bind_some, if_pos ⟨Nat.le_refl _, p2.2.1⟩, nI_1, t1, Option.bind_some, if_pos t2.2.1, Option.bind_some, if_pos t2.2.1, runA]
    exact ⟨τ', rfl, p2.tr t2, t3⟩
theorem run_ok (T ns nb : Nat) (σ : Sg) (a1 : Int32) (hT : T < 512) (h : Inv T ns nb σ) : ∃ (k bv : Int32) (σ1 σ2 : Sg), FL_run ns nb σ a1 = some (k, σ1) ∧ FX5_run ns nb σ1 a1 = some (bv, σ2) ∧ σ2.1 20 0 0 = k ∧ (k = 0 → σ2.2 30 0 0 = bv.toInt64) ∧ Inv (T + 1) ns nb σ2 := by
  refine bothW (F5 := fun τ => FX5_run ns nb τ a1) h (fun A hC hW => ?_)
  unfold FX4_run
  rcases rngN (a := a1) (x := 1) (y := 500) (by decide) (by decide) with q | ⟨j, j1, j2, rfl⟩
  · rw [in4n (show a1 < 1 ∨ 500 < a1 from q), Option.bind_some, if_pos rfl]
    refine ⟨_, _, A, rfl, frC.rf, hC, hW.up (by omega), fun τ hM => ref1 (x := 1) (y := 0) hM ?_ rfl (by decide)⟩
    (try dsimp only)
    have k0 : kN τ ≤ kN (sI (sI τ 20 0 0 0) 20 0 0 1) := Nat.le_trans thr_k thr_k
    unfold FX5_run
    rw [in5n (show a1 < 1 ∨ 500 < a1 from q), Option.bind_some, if_pos rfl]
    dsimp only
    rw [fail5, Option.bind_some, Option.bind_some, if_pos k0]
  · have q := in_rng (x := 1) (y := 500) j1 j2 (by decide)
    have ht : A 0 0 6 ≤ 500 * T := hW.2.2.1
    have hW6 : Wf A ns nb 516 := hW.up (by omega)
    obtain ⟨n1, n2, n3⟩ := run_in (ns := ns) (nb := nb) j A hW6 (by omega)
    obtain ⟨σ1, p1, p2, p3⟩ := rnC (ns := ns) (nb := nb) (T := 516) (j := j) (by omega) (by omega) j 0 0 4100 A σ (by omega) (by omega) hW6 (by omega) hC
    rw [in4y (show ¬ (nI j < 1 ∨ 500 < nI j) from q), Option.bind_some, if_neg n10]
    dsimp only
    rw [show LX4_run_25 ns nb (nI j) 4100 0 0 σ = _ from p1, Option.bind_some, Nat.zero_add]
    refine ⟨_, σ1, runA ns nb j A, rfl, p2.1, p3, n1.cap (by omega), fun τ hM => ?_⟩
    have hM0 : Mx A ns nb 0 (sI τ 20 0 0 0) := (hM.thr 0).x
    obtain ⟨τ', t1, t2, t3⟩ := rnM (ns := ns) (nb := nb) (T := 516) (j := j) (v2 := (sI τ 20 0 0 0).1 20 0 10) (by omega) (by omega) j 0 4100 A _ (by omega) (by omega) hW6 (by omega) hM0
    have e10 : τ'.1 20 0 10 = nI (runA ns nb j A 3 0 2) := (t3.2.2.2.2.2.1 rfl).2.1
    have e10' : (sI τ 20 0 0 0).1 20 0 10 = nI (A 3 0 2) := hM.2.2.2.2.2.1.2.1
    have hthr : τ'.1 20 0 0 = 0 := t2.2.2.1 20 0 0 (Or.inr (Or.inr ⟨rfl, rfl⟩))
    refine ⟨nI (runA ns nb j A 3 0 2 - A 3 0 2), τ', ?_, (frM_I (by decide) (by decide)).tr t2.1, t3.m, hthr, rfl⟩
    (try dsimp only)
    unfold FX5_run
    rw [in5y (show ¬ (nI j < 1 ∨ 500 < nI j) from q), Option.bind_some, if_neg n10]
    dsimp only
    rw [show LX5_run_29 ns nb (nI j) ((sI τ 20 0 0 0).1 20 0 10) 4100 0 (sI τ 20 0 0 0) = _ from t1, Option.bind_some, if_pos ⟨thr_k, t2.2.1⟩, Option.bind_some, if_pos (Nat.le_refl _), Option.bind_some, if_pos (Nat.le_trans thr_k t2.2.1), e10, e10', pk_sub n2.2.1]
