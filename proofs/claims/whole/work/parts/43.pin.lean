/-! PIN -/
theorem pn_bit : ∀ (v : Fin 64) (l : Fin 6), ((nI v.val) >>> (nI l.val &&& 31)) &&& 1 = nI (v.val / 2 ^ l.val % 2) := by decide +kernel
theorem pn_xor : ∀ (v : Fin 64) (l : Fin 6), (nI v.val) ^^^ ((1 : Int32) <<< (nI l.val &&& 31)) = nI (v.val ^^^ 2 ^ l.val) ∧ v.val ^^^ 2 ^ l.val < 64 := by decide +kernel
theorem pn_cnt : ∀ (v : Fin 64) (l : Fin 6), (v.val / 2 ^ l.val % 2 = 0 ∧ pc6 (v.val ^^^ 2 ^ l.val) = pc6 v.val + 1) ∨ (v.val / 2 ^ l.val % 2 = 1 ∧ pc6 (v.val ^^^ 2 ^ l.val) + 1 = pc6 v.val) := by decide +kernel
theorem Cm.pn {A : Ab} {ns nb : Nat} {σ : Sg} (h : Cm A ns nb σ) {b x v n : Nat} : Cm (aU (aU A 6 b 8 n) 7 b x v) ns nb (sI (sI σ 6 b 8 (nI n)) 7 b x (nI v)) := by
  obtain ⟨h1, h2, h3, h4, h5, h6, h7⟩ := h
  refine ⟨h1, fun j hj => ?_, fun j hj y hy => ?_, h4, fun j hj => ?_, h6, h7⟩
  · have a := h2 j hj
    by_cases q : j = b
    · subst q
      obtain ⟨a0, a1, a2, a3, a4, a8, a9, a10, a11, a12⟩ := a
      simp [sI_eq, sI_2, aU_eq, a0, a1, a2, a3, a4, a9, a10, a11, a12]
    · simpa [sI_eq, sI_2, aU_eq, q] using a
  · have a := h3 j hj y hy
    by_cases q : j = b ∧ y = x
    · obtain ⟨rfl, rfl⟩ := q
      simp [sI_eq, aU_eq]
    · simpa [sI_eq, aU_eq, q] using a
  · have e2 : aU (aU A 6 b 8 n) 7 b x v 6 j 2 = A 6 j 2 := by simp [aU_eq]
    rw [e2]
    exact h5 j hj
theorem Mm.pn {A : Ab} {ns nb : Nat} {τ : Sg} (h : Mm A ns nb τ) {b x v n : Nat} (hx : x < 96) : Mm (aU (aU A 6 b 8 n) 7 b x v) ns nb (sI (sI τ 24 0 (96 * b + x) (nI v)) 22 0 (11 * b + 7) (nI n)) := by
  obtain ⟨h1, h2, h3, h4, h5, h6, h7, h8⟩ := h
  refine ⟨h1, fun j hj => ?_, fun j hj y hy => ?_, h4, h5, h6, h7, h8⟩
  · have a := h2 j hj
    by_cases q : j = b
    · subst q
      obtain ⟨a0, a1, a2, a3, a4, a5, a6, a7, a8, a9, a10⟩ := a
      simp [sI_eq, aU_eq, a0, a1, a2, a3, a4, a5, a6, a8, a9, a10]
    · have e : ∀ f, f < 11 → (sI (sI τ 24 0 (96 * b + x) (nI v)) 22 0 (11 * b + 7) (nI n)).1 22 0 (11 * j + f) = τ.1 22 0 (11 * j + f) := fun f hf => (sI_eq _ _ _ _ _ _ _ _).trans (if_neg (by omega))
      have e0 : (sI (sI τ 24 0 (96 * b + x) (nI v)) 22 0 (11 * b + 7) (nI n)).1 22 0 (11 * j) = τ.1 22 0 (11 * j) := e 0 (by decide)
      have ea : ∀ f, aU (aU A 6 b 8 n) 7 b x v 6 j f = A 6 j f := fun f => by simp [aU_eq, q]
      simp only [e0, e 1 (by decide), e 2 (by decide), e 3 (by decide), e 4 (by decide), e 5 (by decide), e 6 (by decide), e 7 (by decide), e 8 (by decide), e 9 (by decide), e 10 (by decide), ea]
      exact a
  · have a := h3 j hj y hy
    by_cases q : j = b ∧ y = x
    · obtain ⟨rfl, rfl⟩ := q
      simp [sI_eq, aU_eq]
    · have e : ¬ (96 * j + y = 96 * b + x) := by omega
      simpa [sI_eq, aU_eq, q, e] using a
theorem Wf.pn {A : Ab} {ns nb T b x v n : Nat} (h : Wf A ns nb T) (hb : b < nb) (hx : x < 96) (hv : v < 64) (hn : n ≤ 24) (hs : n + pc6 (A 7 b x) = A 6 b 8 + pc6 v) : Wf (aU (aU A 6 b 8 n) 7 b x v) ns nb T := by
  obtain ⟨h1, h2, h3, h4, h5, ⟨h6, h6', h6''⟩, h7, h8, h9, h10⟩ := h
  refine ⟨h1, h2, h3, h4, fun j hj => ?_, ⟨fun j y => ?_, fun j hj y => ?_, fun j hj => ?_⟩, h7, ?_, h9, h10⟩
  · have a := h5 j hj
    by_cases q : j = b
    · subst q
      obtain ⟨a1, a2, a3, a4, a5, a6, a7, a8, a9, a10⟩ := a
      refine ⟨by simpa [aU_eq] using a1, by simpa [aU_eq] using a2, by simpa [aU_eq] using a3, by simpa [aU_eq] using a4, by simpa [aU_eq] using a5, by simpa [aU_eq] using a6, by simpa [aU_eq] using a7, by simpa [aU_eq] using a8, by simpa [aU_eq] using hn, by simpa [aU_eq] using a10⟩
    · simpa [aU_eq, q] using a
  · rw [aU_eq]
    by_cases q : 7 = 7 ∧ j = b ∧ y = x
    · rw [if_pos q]; exact hv
    · rw [if_neg q, aU_k (by decide)]; exact h6 j y
  · rw [aU_eq, if_neg (by omega), aU_k (by decide)]; exact h6' j hj y
  · by_cases q : j = b
    · subst q
      have e : (fun y => pc6 (aU (aU A 6 j 8 n) 7 j x v 7 j y)) = fun y => if y = x then pc6 v else pc6 (A 7 j y) := by
        funext y
        by_cases q : y = x
        · simp [aU_eq, q]
        · simp [aU_eq, q]
      have g := fb_sm_upd (fun y => pc6 (A 7 j y)) (pc6 v) hx
      rw [e, aU_k (by decide), aU_same]
      have h0 := h6'' j hj
      (try dsimp only at g)
      omega
    · have h0 := h6'' j hj
      have e : (fun y => pc6 (aU (aU A 6 b 8 n) 7 b x v 7 j y)) = fun y => pc6 (A 7 j y) := by
        funext y
        simp [aU_eq, q]
      rw [e, aU_k (by decide), aU_i q]
      exact h0
  · obtain ⟨c1, c2, c3⟩ := h8
    refine ⟨fun k y => by simpa [aU_eq] using c1 k y, fun k hk y => by simpa [aU_eq] using c2 k hk y, fun j hj c hc => ?_⟩
    have := c3 j hj c hc
    have e2 : aU (aU A 6 b 8 n) 7 b x v 6 j 2 = A 6 j 2 := by simp [aU_eq]
    rw [e2]
    exact this
theorem pin_ok (T ns nb : Nat) (σ : Sg) (a1 a2 a3 : Int32) (h : Inv T ns nb σ) : ∃ (k bv : Int32) (σ1 σ2 : Sg), FL_pin ns nb σ a1 a2 a3 = some (k, σ1) ∧ FX5_pin ns nb σ1 a1 a2 a3 = some (bv, σ2) ∧ σ2.1 20 0 0 = k ∧ (k = 0 → σ2.2 30 0 0 = bv.toInt64) ∧ Inv (T + 1) ns nb σ2 := by
  refine bothW (F5 := fun τ => FX5_pin ns nb τ a1 a2 a3) h (fun A hC hW => ?_)
  have h8 : nb ≤ 8 := hW.2.1
  unfold FX4_pin
  by_cases h1 : vp_in a1 nb
  · obtain ⟨b, hb, rfl⟩ := vp_in_of h1 (by omega)
    obtain ⟨w0, w1, w2, w3, w4, w5, w6, w7, w8, -⟩ := hW.2.2.2.2.1 b hb
    obtain ⟨c0, c1, c2, c3, c4, c8, -⟩ := hC.2.1 b hb
    have gm : ∀ τ, Mm A ns nb τ → FX5_get ns nb (sI τ 20 0 0 0) (nI b) 2 = some (nI (A 6 b 2), sI τ 20 0 0 0) := fun τ hM => by
      rw [← (hM.2.1 b hb).2.2.1]; exact gt5 (τ := sI τ 20 0 0 0) (f := 2) (by omega) (by decide)
    rw [bdAt_in h8 hb, Option.bind_some, oc_s, if_pos hb]
    unfold FX0_hasPlace
    by_cases h2 : vp_in a2 (A 6 b 2)
    · have q2 : ¬ (a2 < 0 ∨ nI (A 6 b 2) - 1 < a2) := by rw [rng0 (by omega)]; exact fun z => z h2
      obtain ⟨x, hx, rfl⟩ := vp_in_of h2 (by omega)
      rw [c2, in4y q2, Option.bind_some, if_pos (Or.inr rfl), Option.bind_some, if_neg n10]
      rcases rngN (a := a3) (x := 0) (y := 5) (by decide) (by decide) with q | ⟨l, l1, l2, rfl⟩
      · rw [in4n (show a3 < 0 ∨ 5 < a3 from q), Option.bind_some, if_pos rfl]
        refine ⟨_, _, A, rfl, frC.rf, hC, hW.up (by omega), fun τ hM => ref1 (x := 2) (y := 0) hM ?_ rfl (by decide)⟩
        (try dsimp only)
        unfold FX5_pin
        rw [isBd_in (n := nb) (τ := sI τ 20 0 0 0) (by omega) hM.2.2.2.2.2.2.2.2.1 hb, Option.bind_some, if_neg n10]
        dsimp only
        rw [gm τ hM, Option.bind_some, in5y q2, Option.bind_some, if_neg n10, in5n (show a3 < 0 ∨ 5 < a3 from q), Option.bind_some, if_pos rfl]
      · have q := in_rng (x := 0) (y := 5) l1 l2 (by decide)
        have c7 : σ.1 7 b x = nI (A 7 b x) := hC.2.2.1 b hb x (by omega)
        have hv : A 7 b x < 64 := hW.2.2.2.2.2.1.1 b x
        have eb := pn_bit ⟨_, hv⟩ ⟨l, by omega⟩
        obtain ⟨ex, hx64⟩ := pn_xor ⟨_, hv⟩ ⟨l, by omega⟩
        have hcn := pn_cnt ⟨_, hv⟩ ⟨l, by omega⟩
        dsimp only at eb ex hx64 hcn
        have hpin : ∀ σ', σ'.1 7 b x = nI (A 7 b x) → FX0_hasPin ns nb σ' b (nI x) (nI l) = some (nI (A 7 b x / 2 ^ l % 2), σ') := by
          intro σ' e7
          unfold FX0_hasPin
          rw [at4 (k := 7) (N := 96) rfl (by decide) (by omega), Option.bind_some]
          dsimp only
          rw [e7, eb]
          rcases (show A 7 b x / 2 ^ l % 2 = 0 ∨ A 7 b x / 2 ^ l % 2 = 1 by omega) with q | q <;> rw [q]
          · rw [if_neg (show ¬ nI 0 = 1 by decide)]; rfl
          · rw [if_pos (show nI 1 = 1 from rfl)]; rfl
        have hg := ixg 96 (i := b) (f := x) (N := 768) (by omega) (by decide)
        have hg1 : ¬ ((96 * nI b + nI x) < 0 ∨ 768 ≤ (96 * nI b + nI x).toNatClampNeg) := hg.1
        have hg2 : (96 * nI b + nI x).toNatClampNeg = 96 * b + x := hg.2
        have hg3 : ¬ ((96 * nI b + nI x) < 0 ∨ 768 ≤ 96 * b + x) := by rw [← hg2]; exact hg1
        have hpc := fb_sm_part (fun y => pc6 (A 7 b y)) (i := x) (n := 96) (by omega)
        have hsum : A 6 b 8 = fb_sm (fun y => pc6 (A 7 b y)) 96 := hW.2.2.2.2.2.1.2.2 b hb
        (try dsimp only at hpc)
        have turn : ∀ n, (A 7 b x / 2 ^ l % 2 = 0 → n = A 6 b 8 + 1) → (A 7 b x / 2 ^ l % 2 = 1 → n + 1 = A 6 b 8) → FX0_turnPin ns nb σ b (nI x) (nI l) = some (sI (sI σ 6 b 8 (nI n)) 7 b x (nI (A 7 b x ^^^ 2 ^ l))) := by
          intro n hn0 hn1
          unfold FX0_turnPin
          rw [hpin σ c7, Option.bind_some]
          dsimp only
          rcases (show A 7 b x / 2 ^ l % 2 = 0 ∨ A 7 b x / 2 ^ l % 2 = 1 by omega) with q | q
          · rw [q, if_pos (show nI 0 = 0 from rfl), c8, nI_1, ← hn0 q, at4 (k := 7) (N := 96) rfl (by decide) (by omega), Option.bind_some]
            dsimp only
            rw [show (sI σ 6 b 8 (nI n)).1 7 b x = nI (A 7 b x) from c7, ex, put4 (k := 7) (N := 96) rfl (by decide) (by omega), Option.bind_some]
          · rw [q, if_neg (show ¬ nI 1 = 0 by decide), c8, ← hn1 q, pk_m1, at4 (k := 7) (N := 96) rfl (by decide) (by omega), Option.bind_some]
            dsimp only
            rw [show (sI σ 6 b 8 (nI n)).1 7 b x = nI (A 7 b x) from c7, ex, put4 (k := 7) (N := 96) rfl (by decide) (by omega), Option.bind_some]
        have fin : ∀ n, n ≤ 24 → n + pc6 (A 7 b x) = A 6 b 8 + pc6 (A 7 b x ^^^ 2 ^ l) → (∀ τ, Mm A ns nb τ → FX5_pin ns nb τ (nI b) (nI x) (nI l) = some (nI n, sI (sI (sI τ 20 0 0 0) 24 0 (96 * b + x) (nI (A 7 b x ^^^ 2 ^ l))) 22 0 (11 * b + 7) (nI n))) → ∃ (z : Nat ⊕ Int32) (σ1 : Sg) (A' : Ab), (some (.inr (nI n), sI (sI σ 6 b 8 (nI n)) 7 b x (nI (A 7 b x ^^^ 2 ^ l))) : Option ((Nat ⊕ Int32) × Sg)) = some (z, σ1) ∧ frC σ σ1 ∧ Cm A' ns nb σ1 ∧ Wf A' ns nb (T + 1) ∧ ∀ τ, Mm A ns nb τ → ∃ (bv : Int32) (τ1 : Sg), FX5_pin ns nb τ (nI b) (nI x) (nI l) = some (bv, τ1) ∧ frM τ τ1 ∧ Mm A' ns nb τ1 ∧ Ag (fun k => if k = 1 then some 1 else if k = 2 then some 2 else if k = 3 then some 3 else none) Int32.toInt64 Int32.toInt64 z τ1 bv := by
          intro n hn hs hm
          exact ⟨_, _, aU (aU A 6 b 8 n) 7 b x (A 7 b x ^^^ 2 ^ l), rfl, (frC_I (by decide)).tr (frC_I (by decide)), hC.pn, (hW.pn hb (by omega) hx64 hn hs).up (by omega), fun τ hM => ⟨_, _, hm τ hM, ((frM_I (by decide) (by decide)).tr (frM_I (by decide) (by decide))).tr (frM_I (by decide) (by decide)), (hM.thr 0).pn (by omega), rfl, rfl⟩⟩
        have m24 : ∀ τ, Mm A ns nb τ → (sI τ 20 0 0 0).1 24 0 (96 * b + x) = nI (A 7 b x) := fun τ hM => hM.2.2.1 b (by omega) x (by omega)
        have m22 : ∀ τ, Mm A ns nb τ → ∀ v, FX5_get ns nb (sI (sI τ 20 0 0 0) 24 0 (96 * b + x) v) (nI b) 7 = some (nI (A 6 b 8), sI (sI τ 20 0 0 0) 24 0 (96 * b + x) v) := fun τ hM v => by
          rw [← (hM.2.1 b hb).2.2.2.2.2.2.2.1]; exact gt5 (τ := sI (sI τ 20 0 0 0) 24 0 (96 * b + x) v) (f := 7) (by omega) (by decide)
        have m22' : ∀ τ, Mm A ns nb τ → FX5_get ns nb (sI τ 20 0 0 0) (nI b) 7 = some (nI (A 6 b 8), sI τ 20 0 0 0) := fun τ hM => by
          rw [← (hM.2.1 b hb).2.2.2.2.2.2.2.1]; exact gt5 (τ := sI τ 20 0 0 0) (f := 7) (by omega) (by decide)
        have mset : ∀ (ρ : Sg) (v : Int32), FX5_set ns nb ρ (nI b) 7 v = some (sI ρ 22 0 (11 * b + 7) v) := fun ρ v => st5 (τ := ρ) (f := 7) (by omega) (by decide)
        have mget : ∀ (ρ : Sg) (v : Int32), FX5_get ns nb (sI ρ 22 0 (11 * b + 7) v) (nI b) 7 = some (v, sI ρ 22 0 (11 * b + 7) v) := fun ρ v => by
          have := gt5 (ns := ns) (nb := nb) (τ := sI ρ 22 0 (11 * b + 7) v) (i := b) (f := 7) (by omega) (by decide)
          rw [sI_eq, if_pos ⟨rfl, rfl, rfl⟩] at this
          exact this
        rw [in4y (show ¬ (nI l < 0 ∨ 5 < nI l) from q), Option.bind_some, if_neg n10, hpin σ c7, Option.bind_some]
        dsimp only
        rcases hcn with ⟨z0, z1⟩ | ⟨z0, z1⟩
        · rw [z0, if_pos (show nI 0 = 0 from rfl), c8]
          by_cases h24 : A 6 b 8 < 24
          · rw [if_pos (show nI (A 6 b 8) < 24 from nI_lt (b := 24) h24 (by decide)), turn (A 6 b 8 + 1) (fun _ => rfl) (fun q => by omega), Option.bind_some]
            rw [show (sI (sI σ 6 b 8 (nI (A 6 b 8 + 1))) 7 b x (nI (A 7 b x ^^^ 2 ^ l))).1 6 b 8 = nI (A 6 b 8 + 1) by rw [sI_eq, if_neg (by omega), sI_eq, if_pos ⟨rfl, rfl, rfl⟩]]
            refine fin (A 6 b 8 + 1) (by omega) (by omega) (fun τ hM => ?_)
            unfold FX5_pin
            rw [isBd_in (n := nb) (τ := sI τ 20 0 0 0) (by omega) hM.2.2.2.2.2.2.2.2.1 hb, Option.bind_some, if_neg n10]
            dsimp only
            rw [gm τ hM, Option.bind_some, in5y q2, Option.bind_some, if_neg n10, in5y (show ¬ (nI l < 0 ∨ 5 < nI l) from q), Option.bind_some, if_neg n10, if_neg hg1, hg2]
            dsimp only
            rw [m24 τ hM, eb, z0, if_neg (show ¬ nI 0 = 1 by decide), m22' τ hM, Option.bind_some, if_neg (show ¬ nI (A 6 b 8) = 24 from fun q => absurd ((nI_eq (b := 24) (by omega) (by decide)).mp q) (by omega))]
            (try simp only [hg1, if_false])
            (try simp only [hg3, if_false])
            (try simp only [hg2])
            rw [m24 τ hM, ex, m22 τ hM, Option.bind_some, mset, Option.bind_some, mget, Option.bind_some, nI_1]
          · rw [if_neg (show ¬ nI (A 6 b 8) < 24 from nI_nlt (b := 24) (by omega) (by omega))]
            refine ⟨_, _, A, rfl, frC.rf, hC, hW.up (by omega), fun τ hM => ref1 (x := 3) (y := 0) hM ?_ rfl (by decide)⟩
            (try dsimp only)
            unfold FX5_pin
            rw [isBd_in (n := nb) (τ := sI τ 20 0 0 0) (by omega) hM.2.2.2.2.2.2.2.2.1 hb, Option.bind_some, if_neg n10]
            dsimp only
            rw [gm τ hM, Option.bind_some, in5y q2, Option.bind_some, if_neg n10, in5y (show ¬ (nI l < 0 ∨ 5 < nI l) from q), Option.bind_some, if_neg n10, if_neg hg1, hg2]
            dsimp only
            rw [m24 τ hM, eb, z0, if_neg (show ¬ nI 0 = 1 by decide), m22' τ hM, Option.bind_some, if_pos (show nI (A 6 b 8) = 24 by rw [show A 6 b 8 = 24 by omega]; rfl)]
        · have h1p : 1 ≤ A 6 b 8 := by omega
          rw [z0, if_neg (show ¬ nI 1 = 0 by decide), turn (A 6 b 8 - 1) (fun q => by omega) (fun q => by omega), Option.bind_some]
          rw [show (sI (sI σ 6 b 8 (nI (A 6 b 8 - 1))) 7 b x (nI (A 7 b x ^^^ 2 ^ l))).1 6 b 8 = nI (A 6 b 8 - 1) by rw [sI_eq, if_neg (by omega), sI_eq, if_pos ⟨rfl, rfl, rfl⟩]]
          refine fin (A 6 b 8 - 1) (by omega) (by omega) (fun τ hM => ?_)
          unfold FX5_pin
          rw [isBd_in (n := nb) (τ := sI τ 20 0 0 0) (by omega) hM.2.2.2.2.2.2.2.2.1 hb, Option.bind_some, if_neg n10]
          dsimp only
          rw [gm τ hM, Option.bind_some, in5y q2, Option.bind_some, if_neg n10, in5y (show ¬ (nI l < 0 ∨ 5 < nI l) from q), Option.bind_some, if_neg n10, if_neg hg1, hg2]
          dsimp only
          rw [m24 τ hM, eb, z0, if_pos (show nI 1 = 1 from rfl)]
          (try simp only [hg1, if_false])
          (try simp only [hg3, if_false])
          (try simp only [hg2])
          rw [ex, m22 τ hM, Option.bind_some, mset, Option.bind_some, mget, Option.bind_some]
          obtain ⟨n, en⟩ : ∃ n, A 6 b 8 = n + 1 := ⟨A 6 b 8 - 1, by omega⟩
          rw [en, pk_m1, Nat.add_sub_cancel]
    · have q2 : a2 < 0 ∨ nI (A 6 b 2) - 1 < a2 := (rng0 (by omega)).mpr h2
      rw [c2, in4n q2, Option.bind_some, if_pos (Or.inl rfl), Option.bind_some, if_pos rfl]
      refine ⟨_, _, A, rfl, frC.rf, hC, hW.up (by omega), fun τ hM => ref1 (x := 2) (y := 0) hM ?_ rfl (by decide)⟩
      (try dsimp only)
      unfold FX5_pin
      rw [isBd_in (n := nb) (τ := sI τ 20 0 0 0) (by omega) hM.2.2.2.2.2.2.2.2.1 hb, Option.bind_some, if_neg n10]
      dsimp only
      rw [gm τ hM, Option.bind_some, in5n q2, Option.bind_some, if_pos rfl]
  · rw [bdAt_out h8 h1, Option.bind_some, oc_n]
    refine ⟨_, _, A, rfl, frC.rf, hC, hW.up (by omega), fun τ hM => ref1 (x := 1) (y := 0) hM ?_ rfl (by decide)⟩
    (try dsimp only)
    unfold FX5_pin
    rw [isBd_out (n := nb) (τ := sI τ 20 0 0 0) (by omega) hM.2.2.2.2.2.2.2.2.1 h1, Option.bind_some, if_pos rfl]
