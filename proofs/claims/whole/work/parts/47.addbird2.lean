theorem sC_at (σ : Sg) (k : Nat) (F : Nat → Int32) (f : Nat) : (sC σ k F).1 k 0 f = F f := if_pos ⟨rfl, rfl⟩
theorem c11 : (11 : Int32).toNatClampNeg = 11 := by decide
theorem c00 : (0 : Int32).toNatClampNeg = 0 := by decide
theorem refB {T ns nb : Nat} {σ : Sg} {X4 : Option ((Nat ⊕ Int32) × Sg)} {F5 : Sg → Option (Int32 × Sg)} {f : Nat → Option Int32} {v : Int32 → Int64} {k : Nat} {x : Int32} (h : Inv T ns nb σ) (hX : X4 = some (.inl k, σ)) (hf : f k = some x) (hm : ∀ A τ, Mm A ns nb τ → F5 τ = (FX5_fail ns nb (sI τ 20 0 0 0) x).bind fun z => some (z.1, z.2)) :
    ∃ (bv : Int32) (σ2 : Sg), X4.bind (wr f v) = some (x, σ) ∧ F5 σ = some (bv, σ2) ∧ σ2.1 20 0 0 = x ∧ Inv (T + 1) ns nb σ2 := by
  obtain ⟨A, hC, hM, hW⟩ := h
  refine ⟨0, sI (sI σ 20 0 0 0) 20 0 0 x, ?_, hm A σ hM, rfl, A, ?_, (hM.thr 0).thr x, hW.up (by omega)⟩
  · rw [hX, Option.bind_some, wr_l rfl, hf]; rfl
  · exact hC.fr ((frM_I (by decide) (by decide)).tr (frM_I (by decide) (by decide)))
theorem addBird_ok (T ns nb : Nat) (σ : Sg) (a1 a2 a3 a4 a5 : Int32) (h : Inv T ns nb σ) : ∃ (k bv : Int32) (σ1 σ2 : Sg), FL_addBird ns nb σ a1 a2 a3 a4 a5 = some (k, σ1) ∧ FX5_addBird ns (if k = 0 then nb + 1 else nb) σ1 a1 a2 a3 a4 a5 = some (bv, σ2) ∧ σ2.1 20 0 0 = k ∧ (k = 0 → σ2.2 30 0 0 = bv.toInt64) ∧ Inv (T + 1) ns (if k = 0 then nb + 1 else nb) σ2 := by
  have h0 := h
  obtain ⟨A, hC, hM, hW⟩ := h0
  have h4 : ns ≤ 4 := hW.1
  have h8 : nb ≤ 8 := hW.2.1
  -- a refusal
  have fin : ∀ (k : Nat) (x : Int32), x ≠ 0 → (if k = 1 then some 1 else if k = 2 then some 2 else if k = 3 then some 3 else none : Option Int32) = some x → FX4_addBird ns nb σ a1 a2 a3 a4 a5 = some (.inl k, σ) → (∀ A τ, Mm A ns nb τ → FX5_addBird ns nb τ a1 a2 a3 a4 a5 = (FX5_fail ns nb (sI τ 20 0 0 0) x).bind fun z => some (z.1, z.2)) → ∃ (k bv : Int32) (σ1 σ2 : Sg), FL_addBird ns nb σ a1 a2 a3 a4 a5 = some (k, σ1) ∧ FX5_addBird ns (if k = 0 then nb + 1 else nb) σ1 a1 a2 a3 a4 a5 = some (bv, σ2) ∧ σ2.1 20 0 0 = k ∧ (k = 0 → σ2.2 30 0 0 = bv.toInt64) ∧ Inv (T + 1) ns (if k = 0 then nb + 1 else nb) σ2 := by
    intro k x hx hf hX hm
    obtain ⟨bv, σ2, e1, e2, e3, e4⟩ := refB (F5 := fun τ => FX5_addBird ns nb τ a1 a2 a3 a4 a5) (f := fun k => if k = 1 then some 1 else if k = 2 then some 2 else if k = 3 then some 3 else none) (v := Int32.toInt64) h hX hf hm
    refine ⟨x, bv, σ, σ2, e1, ?_, e3, fun q => absurd q hx, ?_⟩
    · rw [if_neg hx]; exact e2
    · rw [if_neg hx]; exact e4
  by_cases h1 : vp_in a1 ns
  · obtain ⟨s, hs, rfl⟩ := vp_in_of h1 (by omega)
    have i5 : ∀ A τ, Mm A ns nb τ → FX5_isSpring ns nb (sI τ 20 0 0 0) (nI s) = some (1, sI τ 20 0 0 0) := fun A τ hM => isSp_in (n := ns) (by omega) hM.2.2.2.2.2.2.2.1 hs
    rcases rngN (a := a2) (x := 0) (y := 20) (by decide) (by decide) with q2 | ⟨w, w1, w2, rfl⟩
    · refine fin 2 2 (by decide) rfl ?_ (fun A τ hM => ?_)
      · unfold FX4_addBird
        rw [spAt_in h4 hs, Option.bind_some, oc_s, if_pos hs, in4n (show a2 < 0 ∨ 20 < a2 from q2), Option.bind_some, if_pos rfl]
      · unfold FX5_addBird
        rw [i5 A τ hM, Option.bind_some, if_neg n10, in5n (show a2 < 0 ∨ 20 < a2 from q2), Option.bind_some, if_pos rfl]
    have q2 := in_rng (x := 0) (y := 20) w1 w2 (by decide)
    rcases rngN (a := a3) (x := 8) (y := 96) (by decide) (by decide) with q3 | ⟨n, n1, n2, rfl⟩
    · refine fin 2 2 (by decide) rfl ?_ (fun A τ hM => ?_)
      · unfold FX4_addBird
        rw [spAt_in h4 hs, Option.bind_some, oc_s, if_pos hs, in4y (show ¬ (nI w < 0 ∨ 20 < nI w) from q2), Option.bind_some, if_neg n10, in4n (show a3 < 8 ∨ 96 < a3 from q3), Option.bind_some, if_pos rfl]
      · unfold FX5_addBird
        rw [i5 A τ hM, Option.bind_some, if_neg n10, in5y (show ¬ (nI w < 0 ∨ 20 < nI w) from q2), Option.bind_some, if_neg n10, in5n (show a3 < 8 ∨ 96 < a3 from q3), Option.bind_some, if_pos rfl]
    have q3 := in_rng (x := 8) (y := 96) n1 n2 (by decide)
    rcases rngN (a := a4) (x := 1) (y := 12) (by decide) (by decide) with q4 | ⟨p, p1, p2, rfl⟩
    · refine fin 2 2 (by decide) rfl ?_ (fun A τ hM => ?_)
      · unfold FX4_addBird
        rw [spAt_in h4 hs, Option.bind_some, oc_s, if_pos hs, in4y (show ¬ (nI w < 0 ∨ 20 < nI w) from q2), Option.bind_some, if_neg n10, in4y (show ¬ (nI n < 8 ∨ 96 < nI n) from q3), Option.bind_some, if_neg n10, in4n (show a4 < 1 ∨ 12 < a4 from q4), Option.bind_some, if_pos rfl]
      · unfold FX5_addBird
        rw [i5 A τ hM, Option.bind_some, if_neg n10, in5y (show ¬ (nI w < 0 ∨ 20 < nI w) from q2), Option.bind_some, if_neg n10, in5y (show ¬ (nI n < 8 ∨ 96 < nI n) from q3), Option.bind_some, if_neg n10, in5n (show a4 < 1 ∨ 12 < a4 from q4), Option.bind_some, if_pos rfl]
    have q4 := in_rng (x := 1) (y := 12) p1 p2 (by decide)
    rcases rngN (a := a5) (x := 1) (y := 12) (by decide) (by decide) with q5 | ⟨q, g1, g2, rfl⟩
    · refine fin 2 2 (by decide) rfl ?_ (fun A τ hM => ?_)
      · unfold FX4_addBird
        rw [spAt_in h4 hs, Option.bind_some, oc_s, if_pos hs, in4y (show ¬ (nI w < 0 ∨ 20 < nI w) from q2), Option.bind_some, if_neg n10, in4y (show ¬ (nI n < 8 ∨ 96 < nI n) from q3), Option.bind_some, if_neg n10, in4y (show ¬ (nI p < 1 ∨ 12 < nI p) from q4), Option.bind_some, if_neg n10, in4n (show a5 < 1 ∨ 12 < a5 from q5), Option.bind_some, if_pos rfl]
      · unfold FX5_addBird
        rw [i5 A τ hM, Option.bind_some, if_neg n10, in5y (show ¬ (nI w < 0 ∨ 20 < nI w) from q2), Option.bind_some, if_neg n10, in5y (show ¬ (nI n < 8 ∨ 96 < nI n) from q3), Option.bind_some, if_neg n10, in5y (show ¬ (nI p < 1 ∨ 12 < nI p) from q4), Option.bind_some, if_neg n10, in5n (show a5 < 1 ∨ 12 < a5 from q5), Option.bind_some, if_pos rfl]
    have q5 := in_rng (x := 1) (y := 12) g1 g2 (by decide)
    have e4 : σ.1 0 0 4 = nI nb := hC.2.2.2.2.2.2.2.1
    by_cases hn8 : nb = 8
    · refine fin 3 3 (by decide) rfl ?_ (fun A τ hM => ?_)
      · unfold FX4_addBird
        rw [spAt_in h4 hs, Option.bind_some, oc_s, if_pos hs, in4y (show ¬ (nI w < 0 ∨ 20 < nI w) from q2), Option.bind_some, if_neg n10, in4y (show ¬ (nI n < 8 ∨ 96 < nI n) from q3), Option.bind_some, if_neg n10, in4y (show ¬ (nI p < 1 ∨ 12 < nI p) from q4), Option.bind_some, if_neg n10, in4y (show ¬ (nI q < 1 ∨ 12 < nI q) from q5), Option.bind_some, if_neg n10]
        dsimp only
        rw [e4, if_neg (nI_pos (by omega)), if_neg (show ¬ nI nb < (8 : Int32) from nI_nlt (b := 8) (by omega) (by omega))]
      · have e : (sI τ 20 0 0 0).1 20 0 3 = 8 := by
          have := hM.2.2.2.2.2.2.2.2.1
          rw [hn8] at this
          exact this
        unfold FX5_addBird
        rw [i5 A τ hM, Option.bind_some, if_neg n10, in5y (show ¬ (nI w < 0 ∨ 20 < nI w) from q2), Option.bind_some, if_neg n10, in5y (show ¬ (nI n < 8 ∨ 96 < nI n) from q3), Option.bind_some, if_neg n10, in5y (show ¬ (nI p < 1 ∨ 12 < nI p) from q4), Option.bind_some, if_neg n10, in5y (show ¬ (nI q < 1 ∨ 12 < nI q) from q5), Option.bind_some, if_neg n10, if_pos e]
    · have e2 : σ.2 5 s 2 = lN (A 5 s 2) := (hC.1 s hs).2.2.1
      have hX : FX4_addBird ns nb σ (nI s) (nI w) (nI n) (nI p) (nI q) = some (.inr (nI nb), sI (sgB σ nb (nI s) (nI w) (nI n) (nI p) (nI q) (lN (A 5 s 2))) 0 0 4 (nI (nb + 1))) := by
        have e' : (sgB σ nb (nI s) (nI w) (nI n) (nI p) (nI q) (lN (A 5 s 2))).1 0 0 4 = nI nb := e4
        unfold FX4_addBird
        rw [spAt_in h4 hs, Option.bind_some, oc_s, if_pos hs, in4y (show ¬ (nI w < 0 ∨ 20 < nI w) from q2), Option.bind_some, if_neg n10, in4y (show ¬ (nI n < 8 ∨ 96 < nI n) from q3), Option.bind_some, if_neg n10, in4y (show ¬ (nI p < 1 ∨ 12 < nI p) from q4), Option.bind_some, if_neg n10, in4y (show ¬ (nI q < 1 ∨ 12 < nI q) from q5), Option.bind_some, if_neg n10]
        dsimp only
        rw [e4, e2, e', if_neg (nI_pos (by omega)), if_pos (show nI nb < (8 : Int32) from nI_lt (b := 8) (by omega) (by decide)), if_neg (nI_in (by omega) (by decide)), nI_clamp (by omega), if_pos rfl, nI_1]
      obtain ⟨k, bv, σ1, σ2, r1, r2, r3, r4, r5⟩ := bothW (T' := T + 1) (ns' := ns) (nb' := nb + 1) (X4 := some (.inr (nI nb), sI (sgB σ nb (nI s) (nI w) (nI n) (nI p) (nI q) (lN (A 5 s 2))) 0 0 4 (nI (nb + 1)))) (f := fun k => if k = 1 then some 1 else if k = 2 then some 2 else if k = 3 then some 3 else none) (v := Int32.toInt64) (w := Int32.toInt64) (F5 := fun τ => FX5_addBird ns (nb + 1) τ (nI s) (nI w) (nI n) (nI p) (nI q)) h (fun A2 hC2 hW2 => by
        have eA : lN (A 5 s 2) = lN (A2 5 s 2) := e2.symm.trans (hC2.1 s hs).2.2.1
        refine ⟨_, _, nbA A2 nb s w n p q, rfl, ?_, ?_, (hW2.addB (by omega) hs w2 n1 n2 p1 p2 g1 g2).up (by omega), fun τ hM => ?_⟩
        · intro k i f hk
          exact ⟨(if_neg (by omega)).trans ((if_neg (by omega)).trans ((if_neg (by omega)).trans ((if_neg (by omega)).trans (if_neg (by omega))))), if_neg (by omega)⟩
        · rw [eA]; exact hC2.addB hW2 n2
        have em : (sI τ 20 0 0 0).1 20 0 3 = nI nb := hM.2.2.2.2.2.2.2.2.1
        have hsp : FX5_sp ns (nb + 1) (sI τ 20 0 0 0) (nI s) 2 = some (nI (A2 5 s 2), sI τ 20 0 0 0) := by
          rw [← hM.1 s (by omega) 2 (by decide)]; exact sp5 (τ := sI τ 20 0 0 0) (by omega) (by decide)
        have i5' : FX5_isSpring ns (nb + 1) (sI τ 20 0 0 0) (nI s) = some (1, sI τ 20 0 0 0) := isSp_in (n := ns) (by omega) hM.2.2.2.2.2.2.2.1 hs
        have e11 : 11 * nI nb = nI (11 * nb) := by rw [show (11 : Int32) = nI 11 from rfl, pk_mul]
        obtain ⟨ρ, eρ⟩ : ∃ ρ : Sg, ρ = sC (sI τ 20 0 0 0) 22 (va_cpy (upd (upd (upd (upd (upd (upd (upd (upd (upd (upd (upd (fun _ => 0) (0 : Int32).toNatClampNeg (nI s)) (1 : Int32).toNatClampNeg (nI w)) (2 : Int32).toNatClampNeg (nI n)) (3 : Int32).toNatClampNeg (nI p)) (4 : Int32).toNatClampNeg (nI q)) (5 : Int32).toNatClampNeg 0) (6 : Int32).toNatClampNeg 1) (7 : Int32).toNatClampNeg 0) (8 : Int32).toNatClampNeg 0) (9 : Int32).toNatClampNeg 0) (10 : Int32).toNatClampNeg (nI (A2 5 s 2))) ((sI τ 20 0 0 0).1 22 0) (0 : Int32).toNatClampNeg (11 * nb) (11 : Int32).toNatClampNeg) := ⟨_, rfl⟩
        have p20 : ρ.1 20 0 3 = nI nb := by rw [eρ]; exact em
        obtain ⟨τ1, l1, l2, l3, l4⟩ := ab167 (ns := ns) (nb := nb + 1) (n := nb) (by omega) 6 0 4100 ρ (by omega) (by omega) p20
        have p20' : τ1.1 20 0 3 = nI nb := (l3 20 0 3 (by decide)).trans p20
        obtain ⟨τ2, m1, m2, m3, m4⟩ := ab205 (ns := ns) (nb := nb + 1) (n := nb) (by omega) 288 0 4100 τ1 (by omega) (by omega) p20'
        have p20'' : τ2.1 20 0 3 = nI nb := (m3 20 0 3 (by decide)).trans p20'
        have ro : ∀ k j f, k ≠ 22 → ¬ (k = 20 ∧ j = 0 ∧ f = 0) → ρ.1 k j f = τ.1 k j f := fun k j f hk hk2 => by rw [eρ]; exact (if_neg (by omega)).trans (if_neg (by omega))
        have r22 : ∀ f, (f < 11 * nb ∨ 11 * nb + 11 ≤ f) → ρ.1 22 0 f = τ.1 22 0 f := fun f hf => by
          rw [eρ, sC_at, c11, pk_cpy_out hf]
          rfl
        have r22n : ∀ f, f < 11 → ρ.1 22 0 (11 * nb + f) = (upd (upd (upd (upd (upd (upd (upd (upd (upd (upd (upd (fun _ => 0) (0 : Int32).toNatClampNeg (nI s)) (1 : Int32).toNatClampNeg (nI w)) (2 : Int32).toNatClampNeg (nI n)) (3 : Int32).toNatClampNeg (nI p)) (4 : Int32).toNatClampNeg (nI q)) (5 : Int32).toNatClampNeg 0) (6 : Int32).toNatClampNeg 1) (7 : Int32).toNatClampNeg 0) (8 : Int32).toNatClampNeg 0) (9 : Int32).toNatClampNeg 0) (10 : Int32).toNatClampNeg (nI (A2 5 s 2))) f := fun f hf => by
          rw [eρ, sC_at, c11, pk_cpy_in (by omega) (by omega)]
          congr 1
          rw [c00]
          omega
        have t22 : ∀ f, τ2.1 22 0 f = ρ.1 22 0 f := fun f => (m3 22 0 f (by decide)).trans (l3 22 0 f (by decide))
        refine ⟨nI nb, sI τ2 20 0 3 (nI (nb + 1)), ?_, ?_, ?_, by rw [sI_eq, if_neg (by omega), m3 _ _ _ (by decide), l3 _ _ _ (by decide), eρ]; rfl, rfl⟩
        · show FX5_addBird ns (nb + 1) τ _ _ _ _ _ = _
          unfold FX5_addBird
          rw [i5', Option.bind_some, if_neg n10, in5y (show ¬ (nI w < 0 ∨ 20 < nI w) from q2), Option.bind_some, if_neg n10, in5y (show ¬ (nI n < 8 ∨ 96 < nI n) from q3), Option.bind_some, if_neg n10, in5y (show ¬ (nI p < 1 ∨ 12 < nI p) from q4), Option.bind_some, if_neg n10, in5y (show ¬ (nI q < 1 ∨ 12 < nI q) from q5), Option.bind_some, if_neg n10]
          dsimp only
          rw [em, if_neg (show ¬ nI nb = (8 : Int32) from fun z => hn8 ((nI_eq (b := 8) (by omega) (by decide)).mp z)), hsp, Option.bind_some, e11, nI_clamp (by omega), if_pos ⟨nI_pos (by omega), by rw [show (11 : Int32).toNatClampNeg = 11 by decide, show aln 22 = 88 from rfl]; omega⟩]
          dsimp only
          rw [← eρ, show LX5_addBird_167 ns (nb + 1) 4100 0 ρ = some τ1 from l1, Option.bind_some, show LX5_addBird_205 ns (nb + 1) 4100 0 τ1 = some τ2 from m1, Option.bind_some, p20'', nI_1, sI_eq, if_pos ⟨rfl, rfl, rfl⟩, nI_pred]
        · intro k i f hk
          have hk2 : k < 20 ∨ k = 30 := hk
          refine ⟨?_, ?_⟩
          · rw [sI_eq, if_neg (by omega), m3 _ _ _ (by omega), l3 _ _ _ (by omega), ro _ _ _ (by omega) (by omega)]
          · show τ2.2 k i f = _
            rw [m2, l2, eρ]
            rfl
        · refine Mm.addB (τ := sI τ 20 0 0 0) (hM.thr 0) hW2 (by omega) (fun k j f h1 h2 h3 h4 => ?_) rfl (fun f hf => ?_) (fun f hf => ?_) (fun f hf => ?_) ?_ (fun x hx => ?_) (fun x hx => ?_)
          · rw [sI_eq, if_neg (by omega), m3 _ _ _ h3, l3 _ _ _ h2, eρ]
            exact if_neg (by omega)
          · rw [sI_eq, if_neg (by omega), t22, r22 f hf]
            rfl
          · rw [sI_eq, if_neg (by omega), m3 _ _ _ (by decide), l4, if_neg (by omega), ro _ _ _ (by decide) (by omega)]
            rfl
          · rw [sI_eq, if_neg (by omega), m4, if_neg (by omega), l3 _ _ _ (by decide), ro _ _ _ (by decide) (by omega)]
            rfl
          · have e : ∀ f, f < 11 → (sI τ2 20 0 3 (nI (nb + 1))).1 22 0 (11 * nb + f) = _ := fun f hf => ((sI_eq _ _ _ _ _ _ _ _).trans (if_neg (by omega))).trans ((t22 _).trans (r22n f hf))
            exact ⟨e 0 (by decide), e 1 (by decide), e 2 (by decide), e 3 (by decide), e 4 (by decide), e 5 (by decide), e 6 (by decide), e 7 (by decide), e 8 (by decide), e 9 (by decide), e 10 (by decide)⟩
          · rw [sI_eq, if_neg (by omega), m3 _ _ _ (by decide), l4, if_pos (by omega), Nat.add_sub_cancel_left]
          · rw [sI_eq, if_neg (by omega), m4, if_pos (by omega)])
      have hk : k = 0 := by
        rw [Option.bind_some, wr_r rfl] at r1
        cases r1
        rfl
      refine ⟨k, bv, σ1, σ2, ?_, ?_, r3, r4, ?_⟩
      · unfold FL_addBird; rw [hX]; exact r1
      · rw [if_pos hk]; exact r2
      · rw [if_pos hk]; exact r5
  · refine fin 1 1 (by decide) rfl ?_ (fun A τ hM => ?_)
    · unfold FX4_addBird
      rw [spAt_out h4 h1, Option.bind_some, oc_n]
    · unfold FX5_addBird
      rw [isSp_out (n := ns) (τ := sI τ 20 0 0 0) (by omega) hM.2.2.2.2.2.2.2.1 h1, Option.bind_some, if_pos rfl]
