/-! HELD BY ALL, DOWN -/
theorem r1 (a : Nat) : nI a + 1 = nI (a + 1) := nI_1 a
theorem iO_in {n j : Nat} (h : j < n) : iO n j = some j := if_pos h
theorem iO_out {n j : Nat} (h : ¬ j < n) : iO n j = none := if_neg h
theorem held4 {A : Ab} {ns nb : Nat} {σ : Sg} (h4 : ns ≤ 4) (hC : cSp A σ ns) (w : ∀ i, ns ≤ i → ∀ f, A 5 i f = 0) : ∀ (m i acc fuel : Nat), i + m = 4 → m < fuel → LX4_heldByAll_13 ns nb fuel (nI acc) (nI i) σ = some (nI (acc + (fb_sm (fun i => A 5 i 1) 4 - fb_sm (fun i => A 5 i 1) i)), σ) := by
  intro m
  induction m with
  | zero =>
    intro i acc fuel hi hf
    obtain ⟨n, rfl⟩ : ∃ n, fuel = n + 1 := ⟨fuel - 1, by omega⟩
    have : i = 4 := by omega
    subst this
    rw [LX4_heldByAll_13, if_pos (show (4 : Int32) ≤ nI 4 by decide), Nat.sub_self, Nat.add_zero]
  | succ m ih =>
    intro i acc fuel hi hf
    obtain ⟨n, rfl⟩ : ∃ n, fuel = n + 1 := ⟨fuel - 1, by omega⟩
    have hp := fb_sm_part (fun i => A 5 i 1) (i := i) (n := 4) (by omega)
    have hs := fb_sm_succ (fun i => A 5 i 1) i
    rw [LX4_heldByAll_13, if_neg (show ¬ ((4 : Int32) ≤ nI i) from nI_ge (b := 4) (by omega) (by omega)), if_neg (nI_in (by omega) (by omega)), nI_clamp (by omega), r1]
    by_cases hn : i < ns
    · rw [iO_in hn, oc_s, if_pos hn, (hC i hn).2.1, nI_add, ih (i + 1) (acc + A 5 i 1) n (by omega) (by omega), hs]
      congr 2
      congr 1
      (try dsimp only at hp ⊢)
      omega
    · rw [iO_out hn, oc_n, ih (i + 1) acc n (by omega) (by omega), hs]
      have hw := w i (by omega) 1
      congr 2
      congr 1
      (try dsimp only at hp ⊢)
      omega
theorem heldC {A : Ab} {ns nb T : Nat} {σ : Sg} (hC : Cm A ns nb σ) (hW : Wf A ns nb T) : FX4_heldByAll ns nb σ = some (nI (fb_sm (fun i => A 5 i 1) 4), σ) := by
  have := held4 (nb := nb) hW.1 hC.1 hW.2.2.2.1.2 4 0 0 4100 (by decide) (by decide)
  unfold FX4_heldByAll
  rw [show (0 : Int32) = nI 0 from rfl, this, Option.bind_some, Nat.zero_add]
  rfl
theorem sm_more {f : Nat → Nat} {n : Nat} (h : ∀ i, n ≤ i → f i = 0) : ∀ m, fb_sm f (n + m) = fb_sm f n := by
  intro m
  induction m with
  | zero => rfl
  | succ m ih => rw [← Nat.add_assoc, fb_sm_succ, ih, h _ (by omega), Nat.add_zero]
theorem held5 {A : Ab} {ns nb : Nat} {τ : Sg} (h4 : ns ≤ 4) (hM : mSp A τ) (e : τ.1 20 0 2 = nI ns) : ∀ (m i acc fuel : Nat), i + m = ns → m < fuel → LX5_heldByAll_4 ns nb fuel (nI acc) (nI i) τ = some (nI (acc + (fb_sm (fun i => A 5 i 1) ns - fb_sm (fun i => A 5 i 1) i)), τ) := by
  intro m
  induction m with
  | zero =>
    intro i acc fuel hi hf
    obtain ⟨n, rfl⟩ : ∃ n, fuel = n + 1 := ⟨fuel - 1, by omega⟩
    have : i = ns := by omega
    subst this
    rw [LX5_heldByAll_4, e, if_pos (nI_le (Nat.le_refl _) (by omega)), Nat.sub_self, Nat.add_zero]
  | succ m ih =>
    intro i acc fuel hi hf
    obtain ⟨n, rfl⟩ : ∃ n, fuel = n + 1 := ⟨fuel - 1, by omega⟩
    have hp := fb_sm_part (fun i => A 5 i 1) (i := i) (n := ns) (by omega)
    have hs := fb_sm_succ (fun i => A 5 i 1) i
    have hsp : FX5_sp ns nb τ (nI i) 1 = some (nI (A 5 i 1), τ) := by rw [← hM i (by omega) 1 (by decide)]; exact sp5 (by omega) (by decide)
    rw [LX5_heldByAll_4, e, if_neg (nI_ge (by omega) (by omega)), hsp, Option.bind_some, r1]
    dsimp only
    rw [nI_add, ih (i + 1) (acc + A 5 i 1) n (by omega) (by omega), hs]
    congr 2
    congr 1
    (try dsimp only at hp ⊢)
    omega
theorem heldM {A : Ab} {ns nb T : Nat} {τ : Sg} (hM : Mm A ns nb τ) (hW : Wf A ns nb T) : FX5_heldByAll ns nb τ = some (nI (fb_sm (fun i => A 5 i 1) 4), τ) := by
  have := held5 (nb := nb) hW.1 hM.1 hM.2.2.2.2.2.2.2.1 ns 0 0 4100 (by omega) (by have := hW.1; omega)
  have hm := sm_more (f := fun i => A 5 i 1) (n := ns) (fun i hi => hW.2.2.2.1.2 i hi 1) (4 - ns)
  rw [show ns + (4 - ns) = 4 by have := hW.1; omega] at hm
  unfold FX5_heldByAll
  rw [show (0 : Int32) = nI 0 from rfl, this, Option.bind_some, Nat.zero_add, hm]
  rfl
theorem tension_ok (T ns nb : Nat) (σ : Sg) (h : Inv T ns nb σ) : ∃ (x : UInt64) (σ1 σ2 : Sg), FX4_tension ns nb σ = some (x, σ1) ∧ FX5_tension ns nb σ1 = some (x, σ2) ∧ Inv (T + 1) ns nb σ2 := by
  obtain ⟨r, q, σ1, σ2, e1, e2, rfl, -, e3⟩ := both (T' := T + 1) (ns' := ns) (nb' := nb) (P := fun r q => r = q) (FC := fun σ => FX4_tension ns nb σ) (FM := fun τ => FX5_tension ns nb τ) h (fun A hC hW => by
    have e3 : σ.1 0 0 3 = nI ns := hC.2.2.2.2.2.2.1
    have h4 : ns ≤ 4 := hW.1
    by_cases h0 : ns = 0
    · refine ⟨FP.dconst0, σ, A, ?_, frC.rf, hC, hW.up (by omega), fun τ hM => ⟨FP.dconst0, sI τ 20 0 0 0, ?_, frM_I (by decide) (by decide), hM.thr 0, rfl⟩⟩
      · show FX4_tension ns nb σ = _
        unfold FX4_tension
        rw [e3, h0, if_neg (show ¬ (0 : Int32) < nI 0 by decide)]
      · have em : (sI τ 20 0 0 0).1 20 0 2 = nI ns := hM.2.2.2.2.2.2.2.1
        show FX5_tension ns nb τ = _
        unfold FX5_tension
        rw [em, h0, if_pos (show nI 0 = 0 from rfl)]
    · refine ⟨_, σ, A, ?_, frC.rf, hC, hW.up (by omega), fun τ hM => ⟨FP.ddiv (FP.i2d (nI (fb_sm (fun i => A 5 i 1) 4))) (FP.i2d (1000 * nI ns)), sI τ 20 0 0 0, ?_, frM_I (by decide) (by decide), hM.thr 0, rfl⟩⟩
      · show FX4_tension ns nb σ = _
        unfold FX4_tension
        rw [e3, if_pos (show (0 : Int32) < nI ns from nI_lt (a := 0) (by omega) (by omega)), heldC hC hW, Option.bind_some]
        dsimp only
        rw [e3]
      · have em : (sI τ 20 0 0 0).1 20 0 2 = nI ns := hM.2.2.2.2.2.2.2.1
        show FX5_tension ns nb τ = _
        unfold FX5_tension
        rw [em, if_neg (nI_ne0 (by omega) (by omega)), heldM (hM.thr 0) hW, Option.bind_some]
        dsimp only
        rw [em])
  exact ⟨r, σ1, σ2, e1, e2, e3⟩
