/-! ENGAGE -/
theorem Cm.en {A : Ab} {ns nb : Nat} {σ : Sg} (h : Cm A ns nb σ) {b v : Nat} : Cm (aU A 6 b 9 v) ns nb (sI σ 6 b 9 (nI v)) := by
  obtain ⟨h1, h2, h3, h4, h5, h6, h7⟩ := h
  refine ⟨h1, fun j hj => ?_, h3, h4, fun j hj => ?_, h6, h7⟩
  · have a := h2 j hj
    by_cases q : j = b
    · subst q
      obtain ⟨a0, a1, a2, a3, a4, a8, a9, a10, a11, a12⟩ := a
      simp [sI_eq, sI_2, aU_eq, a0, a1, a2, a3, a4, a8, a10, a11, a12]
    · simpa [sI_eq, sI_2, aU_eq, q] using a
  · have e2 : aU A 6 b 9 v 6 j 2 = A 6 j 2 := by simp [aU_eq]
    rw [e2]
    exact h5 j hj
theorem Cm.an {A : Ab} {ns nb : Nat} {σ : Sg} (h : Cm A ns nb σ) {b v : Nat} : Cm (aU (aU A 6 b 10 v) 6 b 11 0) ns nb (sL (sL σ 6 b 10 (lN v)) 6 b 11 0) := by
  obtain ⟨h1, h2, h3, h4, h5, h6, h7⟩ := h
  refine ⟨h1, fun j hj => ?_, h3, h4, fun j hj => ?_, h6, h7⟩
  · have a := h2 j hj
    by_cases q : j = b
    · subst q
      obtain ⟨a0, a1, a2, a3, a4, a8, a9, a10, a11, a12⟩ := a
      simp [sL_eq, sL_1, aU_eq, a0, a1, a2, a3, a4, a8, a9, a12]
      rfl
    · simpa [sL_eq, sL_1, aU_eq, q] using a
  · have e2 : aU (aU A 6 b 10 v) 6 b 11 0 6 j 2 = A 6 j 2 := by simp [aU_eq]
    rw [e2]
    exact h5 j hj
/-- one place of a bird's row -/
theorem bd_off {A A' : Ab} {nb b : Nat} {σ σ' : Sg} (h : mBd A σ nb) (ha : ∀ j f, j ≠ b → A' 6 j f = A 6 j f) (hs : ∀ k, (k < 11 * b ∨ 11 * b + 11 ≤ k) → σ'.1 22 0 k = σ.1 22 0 k)
    (hb : b < nb → σ'.1 22 0 (11 * b) = nI (A' 6 b 0) ∧ σ'.1 22 0 (11 * b + 1) = nI (A' 6 b 1) ∧ σ'.1 22 0 (11 * b + 2) = nI (A' 6 b 2) ∧ σ'.1 22 0 (11 * b + 3) = nI (A' 6 b 3) ∧ σ'.1 22 0 (11 * b + 4) = nI (A' 6 b 4) ∧ σ'.1 22 0 (11 * b + 5) = nI (A' 6 b 11 % A' 6 b 2) ∧ σ'.1 22 0 (11 * b + 6) = nI (A' 6 b 9) ∧ σ'.1 22 0 (11 * b + 7) = nI (A' 6 b 8) ∧ σ'.1 22 0 (11 * b + 8) = nI (A' 6 b 11) ∧ σ'.1 22 0 (11 * b + 9) = nI (A' 6 b 12) ∧ σ'.1 22 0 (11 * b + 10) = nI (A' 6 b 10)) : mBd A' σ' nb := by
  intro j hj
  by_cases q : j = b
  · subst q; exact hb hj
  · have e : ∀ f, f < 11 → σ'.1 22 0 (11 * j + f) = σ.1 22 0 (11 * j + f) := fun f hf => hs _ (by omega)
    have e0 : σ'.1 22 0 (11 * j) = σ.1 22 0 (11 * j) := e 0 (by decide)
    simp only [e0, e 1 (by decide), e 2 (by decide), e 3 (by decide), e 4 (by decide), e 5 (by decide), e 6 (by decide), e 7 (by decide), e 8 (by decide), e 9 (by decide), e 10 (by decide), ha _ _ q]
    exact h j hj
theorem Mm.en {A : Ab} {ns nb : Nat} {τ : Sg} (h : Mm A ns nb τ) {b v : Nat} (hb : b < nb) : Mm (aU A 6 b 9 v) ns nb (sI τ 22 0 (11 * b + 6) (nI v)) := by
  obtain ⟨h1, h2, h3, h4, h5, h6, h7, h8⟩ := h
  refine ⟨h1, bd_off h2 (fun j f q => aU_i q) (fun k hk => if_neg (by omega)) (fun _ => ?_), h3, h4, h5, h6, h7, h8⟩
  obtain ⟨a0, a1, a2, a3, a4, a5, a6, a7, a8, a9, a10⟩ := h2 b hb
  simp [sI_eq, aU_eq, a0, a1, a2, a3, a4, a5, a7, a8, a9, a10]
theorem Mm.an {A : Ab} {ns nb : Nat} {τ : Sg} (h : Mm A ns nb τ) {b v : Nat} (hb : b < nb) : Mm (aU (aU A 6 b 10 v) 6 b 11 0) ns nb (sI (sI (sI τ 22 0 (11 * b + 5) 0) 22 0 (11 * b + 8) 0) 22 0 (11 * b + 10) (nI v)) := by
  obtain ⟨h1, h2, h3, h4, h5, h6, h7, h8⟩ := h
  refine ⟨h1, bd_off h2 (fun j f q => (aU_i q).trans (aU_i q)) (fun k hk => by rw [sI_eq, if_neg (by omega), sI_eq, if_neg (by omega), sI_eq, if_neg (by omega)]) (fun _ => ?_), h3, h4, h5, h6, h7, h8⟩
  obtain ⟨a0, a1, a2, a3, a4, a5, a6, a7, a8, a9, a10⟩ := h2 b hb
  simp [sI_eq, aU_eq, a0, a1, a2, a3, a4, a6, a7, a9]
  decide
theorem Wf.bdU {A A' : Ab} {ns nb T b : Nat} (h : Wf A ns nb T) (ho : ∀ k i f, ¬ (k = 6 ∧ i = b ∧ (f = 9 ∨ f = 10 ∨ f = 11 ∨ f = 12)) → A' k i f = A k i f) (h9 : A' 6 b 9 ≤ 1) (h10 : A' 6 b 10 ≤ A 5 (A 6 b 0) 2) (h11 : A' 6 b 11 ≤ (A 5 (A 6 b 0) 2 - A' 6 b 10) * A 6 b 3 * A 6 b 2 / (1000 * A 6 b 4)) : Wf A' ns nb T := by
  obtain ⟨w1, w2, w3, ⟨w4, w4'⟩, w5, ⟨w6, w6', w6''⟩, w7, ⟨w8, w8', w8''⟩, w9, w10⟩ := h
  have o5 : ∀ i f, A' 5 i f = A 5 i f := fun i f => ho _ _ _ (by omega)
  have o7 : ∀ i f, A' 7 i f = A 7 i f := fun i f => ho _ _ _ (by omega)
  have o12 : ∀ i f, A' 12 i f = A 12 i f := fun i f => ho _ _ _ (by omega)
  have r12 : ∀ i, A' 12 i = A 12 i := fun i => funext (o12 i)
  have o6 : ∀ i f, f < 9 → A' 6 i f = A 6 i f := fun i f hf => ho _ _ _ (by omega)
  have o0 : A' 0 0 6 = A 0 0 6 := ho _ _ _ (by omega)
  refine ⟨w1, w2, by rw [o0]; exact w3, ⟨fun i hi => by rw [o5, o5, o5, o5, o0]; exact w4 i hi, fun i hi f => by rw [o5]; exact w4' i hi f⟩, fun j hj => ?_, ⟨fun i x => by rw [o7]; exact w6 i x, fun i hi x => by rw [o7]; exact w6' i hi x, fun i hi => ?_⟩, fun i x => by rw [ho _ _ _ (by omega)]; exact w7 i x, ⟨fun k x => by rw [o12]; exact w8 k x, fun k hk x => by rw [o12]; exact w8' k hk x, fun j hj c hc => by rw [o6 j 2 (by decide), r12]; exact w8'' j hj c hc⟩, ⟨by rw [ho _ _ _ (by omega)]; exact w9.1, fun j hj => ?_⟩, fun a b => by rw [ho _ _ _ (by omega)]; exact w10 a b⟩
  · have a := w5 j hj
    rw [o6 j 0 (by decide), o6 j 1 (by decide), o6 j 2 (by decide), o6 j 3 (by decide), o6 j 4 (by decide), o6 j 8 (by decide), o5]
    by_cases q : j = b
    · subst q
      exact ⟨a.1, a.2.1, a.2.2.1, a.2.2.2.1, a.2.2.2.2.1, a.2.2.2.2.2.1, a.2.2.2.2.2.2.1, a.2.2.2.2.2.2.2.1, a.2.2.2.2.2.2.2.2.1, h9, h10, h11⟩
    · rw [ho 6 j 9 (by omega), ho 6 j 10 (by omega), ho 6 j 11 (by omega)]
      exact a
  · rw [o6 i 8 (by decide), w6'' i hi]
    exact fb_sm_cong (fun x _ => by rw [o7])
  · rw [ho _ _ _ (by omega), ho _ _ _ (by omega)]
    rw [ho 3 0 1 (by omega)] at hj
    exact w9.2 j hj
theorem engage_ok (T ns nb : Nat) (σ : Sg) (a1 a2 : Int32) (h : Inv T ns nb σ) (h2 : a2 = 0 ∨ a2 = 1) : ∃ (k bv : Int32) (σ1 σ2 : Sg), FL_engage ns nb σ a1 a2 = some (k, σ1) ∧ FX5_engage ns nb σ1 a1 a2 = some (bv, σ2) ∧ σ2.1 20 0 0 = k ∧ (k = 0 → σ2.2 30 0 0 = (if bv = 0 then 0 else 1)) ∧ Inv (T + 1) ns nb σ2 := by
  refine bothW (w := fun bv => if bv = 0 then 0 else 1) (F5 := fun τ => FX5_engage ns nb τ a1 a2) h (fun A hC hW => ?_)
  have h8 : nb ≤ 8 := hW.2.1
  unfold FX4_engage
  by_cases h1 : vp_in a1 nb
  · obtain ⟨b, hb, rfl⟩ := vp_in_of h1 (by omega)
    obtain ⟨w0, w1, w2, w3, w4, w5, w6, w7, w8, w9, w10, w11⟩ := hW.2.2.2.2.1 b hb
    obtain ⟨c0, c1, c2, c3, c4, c8, c9, c10, c11, c12⟩ := hC.2.1 b hb
    have gm : ∀ τ, Mm A ns nb τ → FX5_get ns nb (sI τ 20 0 0 0) (nI b) 6 = some (nI (A 6 b 9), sI τ 20 0 0 0) := fun τ hM => by
      rw [← (hM.2.1 b hb).2.2.2.2.2.2.1]; exact gt5 (τ := sI τ 20 0 0 0) (f := 6) (by omega) (by decide)
    have mset : ∀ (ρ : Sg) (f : Nat) (v : Int32), f < 11 → FX5_set ns nb ρ (nI b) (nI f) v = some (sI ρ 22 0 (11 * b + f) v) := fun ρ f v hf => st5 (τ := ρ) (f := f) (by omega) hf
    have head : ∀ τ, Mm A ns nb τ → FX5_isBird ns nb τ (nI b) = some (1, τ) := fun τ hM => isBd_in (n := nb) (by omega) hM.2.2.2.2.2.2.2.2.1 hb
    rw [bdAt_in h8 hb, Option.bind_some, oc_s, if_pos hb]
    dsimp only
    rcases (show A 6 b 9 = 0 ∨ A 6 b 9 = 1 by omega) with q9 | q9
    · have z9 : σ.1 6 b 9 = 0 := by rw [c9, q9]; rfl
      rcases h2 with rfl | rfl
      · rw [if_pos rfl, if_pos (Or.inl rfl), z9, if_pos (Or.inl rfl)]
        refine ⟨_, _, aU A 6 b 9 0, rfl, frC_I (by decide), hC.en (v := 0), ?_, fun τ hM => ⟨0, sI τ 20 0 0 0, ?_, frM_I (by decide) (by decide), ?_, rfl, rfl⟩⟩
        · refine (hW.bdU (b := b) (A' := aU A 6 b 9 0) (fun k i f hk => if_neg (by omega)) ?_ ?_ ?_).up (by omega)
          · rw [aU_same]; decide
          · rw [aU_f (by decide)]; exact w10
          · rw [aU_f (by decide), aU_f (by decide)]; exact w11
        · (try dsimp only)
          unfold FX5_engage
          rw [head τ hM, Option.bind_some, if_neg n10, if_pos (show (sI τ 20 0 0 0).1 20 0 0 = 0 from rfl), gm τ hM, Option.bind_some, q9, if_neg (show ¬ nI 0 = 1 by decide), if_pos rfl]
        · have e : aU A 6 b 9 0 = A := by
            funext k i f
            rw [aU_eq]
            by_cases q : k = 6 ∧ i = b ∧ f = 9
            · obtain ⟨rfl, rfl, rfl⟩ := q
              rw [if_pos ⟨rfl, rfl, rfl⟩, q9]
            · rw [if_neg q]
          rw [e]
          exact hM.thr 0
      · have e2 : σ.2 5 (A 6 b 0) 2 = lN (A 5 (A 6 b 0) 2) := (hC.1 _ w0).2.2.1
        rw [if_neg n10, z9, if_pos rfl, c0, spAt_in hW.1 w0, Option.bind_some, oc_s, if_pos w0]
        dsimp only
        unfold FX0_startAnew
        rw [Option.bind_some, if_pos (Or.inr rfl), if_pos (Or.inl rfl), e2]
        refine ⟨_, _, aU (aU (aU A 6 b 10 (A 5 (A 6 b 0) 2)) 6 b 11 0) 6 b 9 1, rfl, ((frC_L (by decide)).tr (frC_L (by decide))).tr (frC_I (by decide)), (hC.an).en (v := 1), ?_, fun τ hM => ⟨0, sI (sI (sI (sI (sI τ 20 0 0 0) 22 0 (11 * b + 6) 1) 22 0 (11 * b + 5) 0) 22 0 (11 * b + 8) 0) 22 0 (11 * b + 10) (nI (A 5 (A 6 b 0) 2)), ?_, ((((frM_I (by decide) (by decide)).tr (frM_I (by decide) (by decide))).tr (frM_I (by decide) (by decide))).tr (frM_I (by decide) (by decide))).tr (frM_I (by decide) (by decide)), ?_, rfl, rfl⟩⟩
        · refine (hW.bdU (b := b) (A' := aU (aU (aU A 6 b 10 (A 5 (A 6 b 0) 2)) 6 b 11 0) 6 b 9 1) (fun k i f hk => (if_neg (by omega)).trans ((if_neg (by omega)).trans (if_neg (by omega)))) ?_ ?_ ?_).up (by omega)
          · rw [aU_same]; decide
          · rw [aU_f (by decide), aU_f (by decide), aU_same]; exact Nat.le_refl _
          · rw [aU_f (by decide), aU_same]; exact Nat.zero_le _
        · have g0 : ∀ ρ : Sg, (∀ k, ρ.1 21 0 k = τ.1 21 0 k) → FX5_sp ns nb ρ (nI (A 6 b 0)) 2 = some (nI (A 5 (A 6 b 0) 2), ρ) := fun ρ hr => by
            have := sp5 (ns := ns) (nb := nb) (i := A 6 b 0) (f := 2) (τ := ρ) (by have := hW.1; omega) (by decide)
            rw [hr, hM.1 _ (by have := hW.1; omega) 2 (by decide)] at this
            exact this
          have g1 : FX5_get ns nb (sI (sI (sI (sI τ 20 0 0 0) 22 0 (11 * b + 6) 1) 22 0 (11 * b + 5) 0) 22 0 (11 * b + 8) 0) (nI b) 0 = some (nI (A 6 b 0), sI (sI (sI (sI τ 20 0 0 0) 22 0 (11 * b + 6) 1) 22 0 (11 * b + 5) 0) 22 0 (11 * b + 8) 0) := by
            have := gt5 (ns := ns) (nb := nb) (i := b) (f := 0) (τ := sI (sI (sI (sI τ 20 0 0 0) 22 0 (11 * b + 6) 1) 22 0 (11 * b + 5) 0) 22 0 (11 * b + 8) 0) (by omega) (by decide)
            have e : (sI (sI (sI (sI τ 20 0 0 0) 22 0 (11 * b + 6) 1) 22 0 (11 * b + 5) 0) 22 0 (11 * b + 8) 0).1 22 0 (11 * b + 0) = nI (A 6 b 0) := by
              rw [sI_eq, if_neg (by omega), sI_eq, if_neg (by omega), sI_eq, if_neg (by omega)]
              exact (hM.2.1 b hb).1
            rw [e] at this
            exact this
          (try dsimp only)
          unfold FX5_engage
          rw [head τ hM, Option.bind_some, if_neg n10, if_pos (show (sI τ 20 0 0 0).1 20 0 0 = 0 from rfl), gm τ hM, Option.bind_some, q9, if_neg (show ¬ nI 0 = 1 by decide), if_neg (show ¬ (0 : Int32) = 1 by decide), if_neg n10]
          rw [show FX5_set ns nb (sI τ 20 0 0 0) (nI b) 6 1 = _ from mset _ 6 1 (by decide), Option.bind_some, if_neg n10, show FX5_set ns nb _ (nI b) 5 0 = _ from mset _ 5 0 (by decide), Option.bind_some, show FX5_set ns nb _ (nI b) 8 0 = _ from mset _ 8 0 (by decide), Option.bind_some, g1, Option.bind_some]
          dsimp only
          rw [g0 (sI (sI (sI (sI τ 20 0 0 0) 22 0 (11 * b + 6) 1) 22 0 (11 * b + 5) 0) 22 0 (11 * b + 8) 0) (fun k => rfl), Option.bind_some]
          dsimp only
          rw [show FX5_set ns nb _ (nI b) 10 _ = _ from mset _ 10 _ (by decide), Option.bind_some]
        · have := ((hM.thr 0).en (v := 1) hb).an (v := A 5 (A 6 b 0) 2) hb
          have e : aU (aU (aU A 6 b 9 1) 6 b 10 (A 5 (A 6 b 0) 2)) 6 b 11 0 = aU (aU (aU A 6 b 10 (A 5 (A 6 b 0) 2)) 6 b 11 0) 6 b 9 1 := by
            funext k i f
            simp only [aU_eq]
            by_cases q1 : k = 6 ∧ i = b
            · obtain ⟨rfl, rfl⟩ := q1
              by_cases f9 : f = 9
              · subst f9; simp
              · simp [f9]
            · rw [if_neg (by omega), if_neg (by omega), if_neg (by omega), if_neg (by omega), if_neg (by omega), if_neg (by omega)]
          rw [e] at this
          exact this
    · have z9 : σ.1 6 b 9 = 1 := by rw [c9, q9]; rfl
      rcases h2 with rfl | rfl
      · rw [if_pos rfl, if_pos (Or.inl rfl), z9, if_pos (Or.inr rfl)]
        refine ⟨_, _, aU A 6 b 9 0, rfl, frC_I (by decide), hC.en (v := 0), ?_, fun τ hM => ⟨1, sI (sI τ 20 0 0 0) 22 0 (11 * b + 6) 0, ?_, (frM_I (by decide) (by decide)).tr (frM_I (by decide) (by decide)), (hM.thr 0).en (v := 0) hb, rfl, rfl⟩⟩
        · refine (hW.bdU (b := b) (A' := aU A 6 b 9 0) (fun k i f hk => if_neg (by omega)) ?_ ?_ ?_).up (by omega)
          · rw [aU_same]; decide
          · rw [aU_f (by decide)]; exact w10
          · rw [aU_f (by decide), aU_f (by decide)]; exact w11
        · (try dsimp only)
          unfold FX5_engage
          rw [head τ hM, Option.bind_some, if_neg n10, if_pos (show (sI τ 20 0 0 0).1 20 0 0 = 0 from rfl), gm τ hM, Option.bind_some, q9, if_pos (show nI 1 = 1 from rfl), if_neg n10, if_pos rfl, show FX5_set ns nb (sI τ 20 0 0 0) (nI b) 6 0 = _ from mset _ 6 0 (by decide), Option.bind_some, if_pos rfl]
      · rw [if_neg n10, z9, if_neg n10, if_pos (Or.inr rfl), if_pos (Or.inr rfl)]
        refine ⟨_, _, aU A 6 b 9 1, rfl, frC_I (by decide), hC.en (v := 1), ?_, fun τ hM => ⟨1, sI τ 20 0 0 0, ?_, frM_I (by decide) (by decide), ?_, rfl, rfl⟩⟩
        · refine (hW.bdU (b := b) (A' := aU A 6 b 9 1) (fun k i f hk => if_neg (by omega)) ?_ ?_ ?_).up (by omega)
          · rw [aU_same]; decide
          · rw [aU_f (by decide)]; exact w10
          · rw [aU_f (by decide), aU_f (by decide)]; exact w11
        · (try dsimp only)
          unfold FX5_engage
          rw [head τ hM, Option.bind_some, if_neg n10, if_pos (show (sI τ 20 0 0 0).1 20 0 0 = 0 from rfl), gm τ hM, Option.bind_some, q9, if_pos (show nI 1 = 1 from rfl), if_pos rfl]
        · have e : aU A 6 b 9 1 = A := by
            funext k i f
            rw [aU_eq]
            by_cases q : k = 6 ∧ i = b ∧ f = 9
            · obtain ⟨rfl, rfl, rfl⟩ := q
              rw [if_pos ⟨rfl, rfl, rfl⟩, q9]
            · rw [if_neg q]
          rw [e]
          exact hM.thr 0
  · rw [bdAt_out h8 h1, Option.bind_some, oc_n]
    refine ⟨_, _, A, rfl, frC.rf, hC, hW.up (by omega), fun τ hM => ?_⟩
    refine ⟨0, sI τ 20 0 0 1, ?_, frM_I (by decide) (by decide), hM.thr 1, rfl, (show (1 : Int32) ≠ 0 by decide)⟩
    (try dsimp only)
    unfold FX5_engage
    rw [isBd_out (n := nb) (τ := τ) (by omega) hM.2.2.2.2.2.2.2.2.1 h1, Option.bind_some, if_pos rfl, if_neg (show ¬ (sI τ 20 0 0 1).1 20 0 0 = 0 from n10)]
