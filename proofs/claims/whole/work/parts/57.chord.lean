/-! CHORD -/
def mtB (A : Ab) (t : Int32) (k : Nat) : Bool := decide (nI (A 4 0 (4 * k)) = t)
def snB (A : Ab) (t : Int32) : Nat → Nat → Bool
  | 0, _ => false
  | k + 1, v => snB A t k v || (mtB A t k && decide (A 4 0 (4 * k + 3) = v))
def ctA (A : Ab) (t : Int32) : Nat → Nat
  | 0 => 0
  | k + 1 => ctA A t k + (if (mtB A t k && !snB A t k (A 4 0 (4 * k + 3))) = true then 1 else 0)
theorem ch49 {A : Ab} {ns nb : Nat} {τ : Sg} {t v2 : Int32} (hM : mSg A τ) (h250 : A 3 0 1 ≤ 250) (hn : ∀ j, j < A 3 0 1 → A 4 0 (4 * j + 3) ≤ 87) {k : Nat} (hk : k < A 3 0 1) (f : Bool) : ∀ (m i fuel : Nat), i + m = k → m < fuel → LX5_chord_49 ns nb t v2 (nI k) fuel (nI (if (f && !snB A t i (A 4 0 (4 * k + 3))) = true then 1 else 0)) (nI i) τ = some (nI (if (f && !snB A t k (A 4 0 (4 * k + 3))) = true then 1 else 0), τ) := by
  intro m
  induction m with
  | zero =>
    intro i fuel hi hf
    obtain ⟨u, rfl⟩ : ∃ u, fuel = u + 1 := ⟨fuel - 1, by omega⟩
    have : i = k := by omega
    subst this
    rw [LX5_chord_49, if_pos (nI_le (Nat.le_refl _) (by omega))]
  | succ m ih =>
    intro i fuel hi hf
    obtain ⟨u, rfl⟩ : ∃ u, fuel = u + 1 := ⟨fuel - 1, by omega⟩
    have ihu := ih (i + 1) u (by omega) (by omega)
    have e4 : ∀ j, 4 * nI j = nI (4 * j) := fun j => by rw [show (4 : Int32) = nI 4 from rfl, pk_mul]
    have e43 : ∀ j, nI (4 * j) + 3 = nI (4 * j + 3) := fun j => by rw [show (3 : Int32) = nI 3 from rfl, nI_add]
    rw [LX5_chord_49, if_neg (nI_ge (by omega) (by omega))]
    by_cases c : (f && !snB A t i (A 4 0 (4 * k + 3))) = true
    · rw [if_pos c, if_neg (show ¬ nI 1 = 0 by decide), e4, if_neg (nI_in (by omega) (by decide)), nI_clamp (by omega), hM.2.2 _ (by omega)]
      by_cases ht : nI (A 4 0 (4 * i)) = t
      · rw [if_pos ht, e43, if_neg (nI_in (by omega) (by decide)), e4, e43, if_neg (nI_in (by omega) (by decide)), nI_clamp (by omega), nI_clamp (by omega), hM.2.2 _ (by omega), hM.2.2 _ (by omega)]
        have n1 := hn i (by omega)
        have n2 := hn k hk
        have hmt : mtB A t i = true := decide_eq_true ht
        by_cases hv : A 4 0 (4 * i + 3) = A 4 0 (4 * k + 3)
        · have e : (f && !snB A t (i + 1) (A 4 0 (4 * k + 3))) = false := by rw [snB, hmt, hv]; simp
          rw [e] at ihu
          rw [if_pos (congrArg nI hv), nI_1]
          exact ihu
        · have e : (f && !snB A t (i + 1) (A 4 0 (4 * k + 3))) = true := by rw [snB, hmt, decide_eq_false hv]; simpa using c
          rw [e] at ihu
          rw [if_neg (fun q => hv ((nI_eq (by omega) (by omega)).mp q)), nI_1]
          exact ihu
      · have hmt : mtB A t i = false := decide_eq_false ht
        have e : (f && !snB A t (i + 1) (A 4 0 (4 * k + 3))) = true := by rw [snB, hmt]; simpa using c
        rw [e] at ihu
        rw [if_neg ht, nI_1]
        exact ihu
    · have e : ¬ (f && !snB A t (i + 1) (A 4 0 (4 * k + 3))) = true := by
        intro q
        apply c
        rw [snB] at q
        cases f <;> cases hs : snB A t i (A 4 0 (4 * k + 3)) <;> simp_all
      rw [if_neg e] at ihu
      rw [if_neg c, if_pos (show nI 0 = 0 from rfl), nI_1]
      exact ihu
theorem ch19 {A : Ab} {ns nb : Nat} {τ : Sg} {t : Int32} (hM : mSg A τ) (h250 : A 3 0 1 ≤ 250) (hn : ∀ j, j < A 3 0 1 → A 4 0 (4 * j + 3) ≤ 87) : ∀ (m k fuel : Nat), k + m = A 3 0 1 → m < fuel → LX5_chord_19 ns nb t fuel (nI (ctA A t k)) (nI k) τ = some (nI (ctA A t (A 3 0 1)), τ) := by
  intro m
  induction m with
  | zero =>
    intro k fuel hi hf
    obtain ⟨u, rfl⟩ : ∃ u, fuel = u + 1 := ⟨fuel - 1, by omega⟩
    have : k = A 3 0 1 := by omega
    rw [LX5_chord_19, hM.1, if_pos (nI_le (by omega) (by omega)), this]
  | succ m ih =>
    intro k fuel hi hf
    obtain ⟨u, rfl⟩ : ∃ u, fuel = u + 1 := ⟨fuel - 1, by omega⟩
    have ihu := ih (k + 1) u (by omega) (by omega)
    have e4 : 4 * nI k = nI (4 * k) := by rw [show (4 : Int32) = nI 4 from rfl, pk_mul]
    have g := fun f => ch49 (ns := ns) (nb := nb) (t := t) (v2 := nI (ctA A t k)) hM h250 hn (k := k) (by omega) f k 0 4100 (by omega) (by omega)
    rw [LX5_chord_19, hM.1, if_neg (nI_ge (by omega) (by omega)), e4, if_neg (nI_in (by omega) (by decide)), nI_clamp (by omega), hM.2.2 _ (by omega)]
    rw [ctA] at ihu
    by_cases ht : nI (A 4 0 (4 * k)) = t
    · have hmt : mtB A t k = true := decide_eq_true ht
      rw [hmt] at ihu
      have g1 : LX5_chord_49 ns nb t (nI (ctA A t k)) (nI k) 4100 1 0 τ = _ := g true
      rw [if_pos ht, g1, Option.bind_some]
      dsimp only
      by_cases c : (true && !snB A t k (A 4 0 (4 * k + 3))) = true
      · rw [if_pos c] at ihu ⊢
        rw [if_neg (show ¬ nI 1 = 0 by decide), nI_1, nI_1]
        exact ihu
      · rw [if_neg c] at ihu ⊢
        rw [if_pos (show nI 0 = 0 from rfl), Int32.add_zero, nI_1]
        exact ihu
    · have hmt : mtB A t k = false := decide_eq_false ht
      rw [hmt] at ihu
      have g0 : LX5_chord_49 ns nb t (nI (ctA A t k)) (nI k) 4100 0 0 τ = _ := g false
      rw [if_neg ht, g0, Option.bind_some]
      dsimp only
      have c : ¬ (false && !snB A t k (A 4 0 (4 * k + 3))) = true := by simp
      rw [if_neg c] at ihu ⊢
      rw [if_pos (show nI 0 = 0 from rfl), Int32.add_zero, nI_1]
      exact ihu
theorem or_lt {x j : Nat} (hx : x < 2 ^ 64) (hj : j < 64) : x ||| 2 ^ j < 2 ^ 64 := Nat.or_lt_two_pow hx (Nat.pow_lt_pow_right (by decide) hj)
theorem ch22 {A : Ab} {ns nb : Nat} {σ : Sg} {t : Int32} (hC : cSg A σ) (h250 : A 3 0 1 ≤ 250) (hn : ∀ j, j < A 3 0 1 → A 4 0 (4 * j + 3) ≤ 87) : ∀ (m k fuel lo hi : Nat), k + m = A 3 0 1 → m < fuel → lo < 2 ^ 64 → hi < 2 ^ 64 → (∀ v, v < 64 → lo.testBit v = snB A t k v) → (∀ v, v < 64 → hi.testBit v = snB A t k (v + 64)) → pcB lo + pcB hi = ctA A t k → ∃ lo' hi' : Nat, lo' < 2 ^ 64 ∧ hi' < 2 ^ 64 ∧ pcB lo' + pcB hi' = ctA A t (A 3 0 1) ∧ LX4_chord_22 ns nb t fuel (lN lo) (lN hi) (nI k) σ = some (lN lo', lN hi', σ) := by
  intro m
  induction m with
  | zero =>
    intro k fuel lo hi hk hf h1 h2 h3 h4 h5
    obtain ⟨u, rfl⟩ : ∃ u, fuel = u + 1 := ⟨fuel - 1, by omega⟩
    have : k = A 3 0 1 := by omega
    exact ⟨lo, hi, h1, h2, by rw [← this]; exact h5, by rw [LX4_chord_22, hC.1, if_pos (nI_le (by omega) (by omega))]⟩
  | succ m ih =>
    intro k fuel lo hi hk hf h1 h2 h3 h4 h5
    obtain ⟨u, rfl⟩ : ∃ u, fuel = u + 1 := ⟨fuel - 1, by omega⟩
    have t0 : FX2_told ns nb σ (nI k) 0 = some (nI (A 4 0 (4 * k)), σ) := told4 hC h250 (w := 0) (by omega) (by decide)
    have t3 : FX2_told ns nb σ (nI k) 3 = some (nI (A 4 0 (4 * k + 3)), σ) := told4 hC h250 (w := 3) (by omega) (by decide)
    have nv := hn k (by omega)
    rw [LX4_chord_22, hC.1, if_neg (nI_ge (by omega) (by omega)), t0, Option.bind_some]
    dsimp only
    by_cases ht : nI (A 4 0 (4 * k)) = t
    · have hmt : mtB A t k = true := decide_eq_true ht
      rw [if_pos ht, t3, Option.bind_some]
      dsimp only
      obtain ⟨v, ev⟩ : ∃ v, v = A 4 0 (4 * k + 3) := ⟨_, rfl⟩
      have es : ∀ w, snB A t (k + 1) w = (snB A t k w || decide (v = w)) := fun w => by rw [snB, hmt, Bool.true_and, ev]
      have ec : ctA A t (k + 1) = ctA A t k + (if snB A t k v = true then 0 else 1) := by
        rw [ctA, hmt, Bool.true_and, ← ev]
        cases snB A t k v <;> rfl
      rw [← ev] at nv ⊢
      by_cases h64 : 64 ≤ v
      · have e1 : lN hi ||| ((1 : Int64) <<< ((nI v - 64).toInt64 &&& 63)) = lN (hi ||| 2 ^ (v - 64)) := by
          rw [show (64 : Int32) = nI 64 from rfl, pk_sub h64]
          have := wb_shl 1 (k := v - 64) (by omega)
          rw [Nat.one_mul] at this
          rw [show (1 : Int64) = lN 1 from rfl, this]
          exact wb_or h2 (Nat.pow_lt_pow_right (by decide) (by omega))
        rw [if_pos (show (64 : Int32) ≤ nI v from nI_le (a := 64) h64 (by omega)), e1, nI_1]
        refine ih (k + 1) u lo (hi ||| 2 ^ (v - 64)) (by omega) (by omega) h1 (or_lt h2 (by omega)) (fun w hw => ?_) (fun w hw => ?_) ?_
        · rw [es, h3 w hw, decide_eq_false (by omega), Bool.or_false]
        · rw [es, fb_bit_set, h4 w hw]
          congr 1
          exact decide_eq_decide.mpr (by omega)
        · have := h4 (v - 64) (by omega)
          rw [show v - 64 + 64 = v by omega] at this
          rw [pcB_or _ _ (by omega), this, ec]
          omega
      · have e1 : lN lo ||| ((1 : Int64) <<< ((nI v).toInt64 &&& 63)) = lN (lo ||| 2 ^ v) := by
          have := wb_shl 1 (k := v) (by omega)
          rw [Nat.one_mul] at this
          rw [show (1 : Int64) = lN 1 from rfl, this]
          exact wb_or h1 (Nat.pow_lt_pow_right (by decide) (by omega))
        rw [if_neg (show ¬ (64 : Int32) ≤ nI v from nI_ge (b := 64) (by omega) (by decide)), e1, nI_1]
        refine ih (k + 1) u (lo ||| 2 ^ v) hi (by omega) (by omega) (or_lt h1 (by omega)) h2 (fun w hw => ?_) (fun w hw => ?_) ?_
        · rw [es, fb_bit_set, h3 w hw]
          congr 1
          exact decide_eq_decide.mpr (by omega)
        · rw [es, h4 w hw, decide_eq_false (by omega), Bool.or_false]
        · rw [pcB_or _ _ (by omega), h3 v (by omega), ec]
          omega
    · have hmt : mtB A t k = false := decide_eq_false ht
      have es : ∀ w, snB A t (k + 1) w = snB A t k w := fun w => by rw [snB, hmt, Bool.false_and, Bool.or_false]
      rw [if_neg ht, nI_1]
      refine ih (k + 1) u lo hi (by omega) (by omega) h1 h2 (fun w hw => by rw [es]; exact h3 w hw) (fun w hw => by rw [es]; exact h4 w hw) ?_
      rw [ctA, hmt, Bool.false_and, if_neg (by decide)]
      exact h5
theorem chord_ok (T ns nb : Nat) (σ : Sg) (a1 : Int32) (h : Inv T ns nb σ) : ∃ (k bv : Int32) (σ1 σ2 : Sg), FL_chord ns nb σ a1 = some (k, σ1) ∧ FX5_chord ns nb σ1 a1 = some (bv, σ2) ∧ σ2.1 20 0 0 = k ∧ (k = 0 → σ2.2 30 0 0 = bv.toInt64) ∧ Inv (T + 1) ns nb σ2 := by
  refine bothW (F5 := fun τ => FX5_chord ns nb τ a1) h (fun A hC hW => ?_)
  obtain ⟨h250, hb⟩ := hW.2.2.2.2.2.2.2.2.1
  have hn : ∀ j, j < A 3 0 1 → A 4 0 (4 * j + 3) ≤ 87 := fun j hj => (hb j hj).2
  by_cases h0 : (0 : Int32) ≤ a1
  · have z0 : ∀ v, Nat.testBit 0 v = false := fun v => Nat.zero_testBit v
    obtain ⟨lo, hi, g1, g2, g3, g4⟩ := ch22 (ns := ns) (nb := nb) (t := a1) hC.2.2.2.2.2.1 h250 hn (A 3 0 1) 0 4100 0 0 (by omega) (by omega) (by decide) (by decide) (fun v _ => z0 v) (fun v _ => z0 v) (show pcB 0 + pcB 0 = 0 by decide +kernel)
    refine ⟨.inr (nI (ctA A a1 (A 3 0 1))), σ, A, ?_, frC.rf, hC, hW.up (by omega), fun τ hM => ⟨nI (ctA A a1 (A 3 0 1)), sI τ 20 0 0 0, ?_, frM_I (by decide) (by decide), hM.thr 0, rfl, rfl⟩⟩
    · unfold FX4_chord
      rw [if_pos h0, show LX4_chord_22 ns nb a1 4100 0 0 0 σ = _ from g4, Option.bind_some]
      dsimp only
      rw [pop64 g1, Option.bind_some]
      dsimp only
      rw [pop64 g2, Option.bind_some]
      dsimp only
      rw [nI_add, g3]
    · (try dsimp only)
      unfold FX5_chord
      rw [if_pos h0, show LX5_chord_19 ns nb a1 4100 0 0 (sI τ 20 0 0 0) = _ from ch19 (ns := ns) (nb := nb) (t := a1) (hM.thr 0).2.2.2.2.2.1 h250 hn (A 3 0 1) 0 4100 (by omega) (by omega)]
      rfl
  · refine ⟨.inl 2, σ, A, ?_, frC.rf, hC, hW.up (by omega), fun τ hM => ref1 (x := 1) (y := 0) hM ?_ rfl (by decide)⟩
    · unfold FX4_chord
      rw [if_neg h0]
    · (try dsimp only)
      unfold FX5_chord
      rw [if_neg h0]
