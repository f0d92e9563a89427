/-! WHAT IS REMEMBERED AND RECALLED -/
def rmb (A : Ab) (ns nb : Nat) (σ : Sg) : Prop := (∀ i, i < ns → σ.1 5 i 5 = nI (A 5 i 1) ∧ σ.2 5 i 6 = lN (A 5 i 2) ∧ σ.1 5 i 7 = nI (A 5 i 3)) ∧ (∀ b, b < nb → σ.2 6 b 13 = lN (A 6 b 11) ∧ σ.1 6 b 14 = nI (A 6 b 12)) ∧ σ.1 3 0 3 = nI (A 3 0 1) ∧ σ.1 3 0 4 = nI (A 3 0 2)
theorem rmb.ok {A : Ab} {ns nb : Nat} {σ τ : Sg} (h : rmb A ns nb σ) (k : okC σ τ) : rmb A ns nb τ := by
  obtain ⟨h1, h2, h3, h4⟩ := h
  obtain ⟨-, k1, k2, k3, k4⟩ := k
  exact ⟨fun i hi => ⟨(k1 i).1.trans (h1 i hi).1, (k1 i).2.1.trans (h1 i hi).2.1, (k1 i).2.2.trans (h1 i hi).2.2⟩, fun b hb => ⟨(k2 b).1.trans (h2 b hb).1, (k2 b).2.trans (h2 b hb).2⟩, k3.trans h3, k4.trans h4⟩
theorem Cm.same {A : Ab} {ns nb : Nat} {σ τ : Sg} (h : Cm A ns nb σ) (e1 : ∀ k i f, ¬ (k = 5 ∧ 5 ≤ f) → ¬ (k = 6 ∧ 13 ≤ f) → ¬ (k = 3 ∧ 3 ≤ f) → τ.1 k i f = σ.1 k i f) (e2 : ∀ k i f, ¬ (k = 5 ∧ 5 ≤ f) → ¬ (k = 6 ∧ 13 ≤ f) → τ.2 k i f = σ.2 k i f) : Cm A ns nb τ := by
  obtain ⟨h1, h2, h3, h4, h5, ⟨s1, s2, s3⟩, ⟨p1, p2, p3, p4⟩⟩ := h
  refine ⟨fun i hi => ?_, fun b hb => ?_, fun b hb x hx => ?_, fun b hb x hx => ?_, fun b hb c hc => ⟨?_, fun x hx => ?_, fun x hx => ?_⟩, ⟨?_, ?_, fun j hj => ?_⟩, ⟨?_, ?_, ?_, ?_⟩⟩
  · rw [e1 5 i 0 (by omega) (by omega) (by omega), e1 5 i 1 (by omega) (by omega) (by omega), e2 5 i 2 (by omega) (by omega), e1 5 i 3 (by omega) (by omega) (by omega), e1 5 i 4 (by omega) (by omega) (by omega)]
    exact h1 i hi
  · rw [e1 6 b 0 (by omega) (by omega) (by omega), e1 6 b 1 (by omega) (by omega) (by omega), e1 6 b 2 (by omega) (by omega) (by omega), e1 6 b 3 (by omega) (by omega) (by omega), e1 6 b 4 (by omega) (by omega) (by omega), e1 6 b 8 (by omega) (by omega) (by omega), e1 6 b 9 (by omega) (by omega) (by omega), e2 6 b 10 (by omega) (by omega), e2 6 b 11 (by omega) (by omega), e1 6 b 12 (by omega) (by omega) (by omega)]
    exact h2 b hb
  · rw [e1 _ _ _ (by omega) (by omega) (by omega)]; exact h3 b hb x hx
  · rw [e1 _ _ _ (by omega) (by omega) (by omega)]; exact h4 b hb x hx
  · rw [e1 _ _ _ (by omega) (by omega) (by omega)]; exact (h5 b hb c hc).1
  · rw [e1 _ _ _ (by omega) (by omega) (by omega)]; exact (h5 b hb c hc).2.1 x hx
  · rw [e1 _ _ _ (by omega) (by omega) (by omega)]; exact (h5 b hb c hc).2.2 x hx
  · rw [e1 _ _ _ (by omega) (by omega) (by omega)]; exact s1
  · rw [e1 _ _ _ (by omega) (by omega) (by omega)]; exact s2
  · rw [e1 _ _ _ (by omega) (by omega) (by omega)]; exact s3 j hj
  · rw [e1 _ _ _ (by omega) (by omega) (by omega)]; exact p1
  · rw [e1 _ _ _ (by omega) (by omega) (by omega)]; exact p2
  · rw [e1 _ _ _ (by omega) (by omega) (by omega)]; exact p3
  · rw [e1 _ _ _ (by omega) (by omega) (by omega)]; exact p4
theorem rememberC {A : Ab} {ns nb : Nat} {σ : Sg} (hC : Cm A ns nb σ) (h4 : ns ≤ 4) (h8 : nb ≤ 8) : ∃ σ' : Sg, FX4_rememberAll ns nb σ = some σ' ∧ frC σ σ' ∧ Cm A ns nb σ' ∧ rmb A ns nb σ' := by
  obtain ⟨σ1, q1, q2, q3, q4⟩ := remS (nb := nb) h4 4 0 4100 σ (by omega) (by omega)
  obtain ⟨σ2, u1, u2, u3, u4⟩ := remB (ns := ns) h8 8 0 4100 σ1 (by omega) (by omega)
  obtain ⟨σ3, e3⟩ : ∃ ρ, ρ = sI (sI σ2 3 0 3 (σ2.1 3 0 1)) 3 0 4 ((sI σ2 3 0 3 (σ2.1 3 0 1)).1 3 0 2) := ⟨_, rfl⟩
  have w1 : ∀ k j f, ¬ (k = 3 ∧ (f = 3 ∨ f = 4)) → σ3.1 k j f = σ2.1 k j f := fun k j f h => by
    rw [e3, sI_eq, if_neg (by omega), sI_eq, if_neg (by omega)]
  have w2 : σ3.2 = σ2.2 := by rw [e3]; rfl
  have a1 : ∀ k i f, ¬ (k = 5 ∧ 5 ≤ f) → ¬ (k = 6 ∧ 13 ≤ f) → ¬ (k = 3 ∧ 3 ≤ f) → σ3.1 k i f = σ.1 k i f := fun k i f x y z => by
    rw [w1 k i f (by omega), u3 k i f (by omega), q3 k i f (by omega)]
  have a2 : ∀ k i f, ¬ (k = 5 ∧ 5 ≤ f) → ¬ (k = 6 ∧ 13 ≤ f) → σ3.2 k i f = σ.2 k i f := fun k i f x y => by
    rw [w2, u4 k i f (by omega), q4 k i f (by omega)]
  refine ⟨σ3, ?_, fun k i f hk => ⟨a1 k i f (by omega) (by omega) (by omega), a2 k i f (by omega) (by omega)⟩, hC.same a1 a2, fun i hi => ?_, fun b hb => ?_, ?_, ?_⟩
  · unfold FX4_rememberAll
    rw [show LX4_rememberAll_10 ns nb 4100 0 σ = _ from q1, Option.bind_some, show LX4_rememberAll_46 ns nb 4100 0 σ1 = _ from u1, Option.bind_some, e3]
    rfl
  · obtain ⟨-, c1, c2, c3, -⟩ := hC.1 i hi
    obtain ⟨x1, x2, x3⟩ := q2 i (Nat.zero_le _) hi
    rw [w1 5 i 5 (by omega), w2, w1 5 i 7 (by omega), u3 5 i 5 (by omega), u4 5 i 6 (by omega), u3 5 i 7 (by omega), x1, x2, x3]
    exact ⟨c1, c2, c3⟩
  · obtain ⟨-, -, -, -, -, -, -, -, c11, c12⟩ := hC.2.1 b hb
    obtain ⟨x1, x2⟩ := u2 b (Nat.zero_le _) hb
    rw [w1 6 b 14 (by omega), w2, x1, x2, q4 6 b 11 (by omega), q3 6 b 12 (by omega)]
    exact ⟨c11, c12⟩
  · have : σ3.1 3 0 3 = σ2.1 3 0 1 := by rw [e3]; rfl
    rw [this, u3 3 0 1 (by omega), q3 3 0 1 (by omega)]
    exact hC.2.2.2.2.2.1.1
  · have : σ3.1 3 0 4 = σ2.1 3 0 2 := by rw [e3]; rfl
    rw [this, u3 3 0 2 (by omega), q3 3 0 2 (by omega)]
    exact hC.2.2.2.2.2.1.2.1
theorem recallC {A B : Ab} {ns nb : Nat} {σ : Sg} (hB : Cm B ns nb σ) (hr : rmb A ns nb σ) (hk : kal A B) (h4 : ns ≤ 4) (h8 : nb ≤ 8) : ∃ σ' : Sg, FX4_recallAll ns nb σ = some σ' ∧ frC σ σ' ∧ Cm A ns nb (sI σ' 0 0 6 (nI (A 0 0 6))) := by
  obtain ⟨σ1, q1, q2, q3, q4⟩ := recS (nb := nb) h4 4 0 4100 σ (by omega) (by omega)
  obtain ⟨σ2, u1, u2, u3, u4⟩ := recB (ns := ns) h8 8 0 4100 σ1 (by omega) (by omega)
  obtain ⟨σ3, e3⟩ : ∃ ρ, ρ = sI (sI σ2 3 0 1 (σ2.1 3 0 3)) 3 0 2 ((sI σ2 3 0 1 (σ2.1 3 0 3)).1 3 0 4) := ⟨_, rfl⟩
  have w1 : ∀ k j f, ¬ (k = 3 ∧ (f = 1 ∨ f = 2)) → σ3.1 k j f = σ2.1 k j f := fun k j f h => by
    rw [e3, sI_eq, if_neg (by omega), sI_eq, if_neg (by omega)]
  have w2 : σ3.2 = σ2.2 := by rw [e3]; rfl
  have a1 : ∀ k i f, ¬ (k = 5 ∧ (f = 1 ∨ f = 3)) → ¬ (k = 6 ∧ f = 12) → ¬ (k = 3 ∧ (f = 1 ∨ f = 2)) → σ3.1 k i f = σ.1 k i f := fun k i f x y z => by
    rw [w1 k i f (by omega), u3 k i f (by omega), q3 k i f (by omega)]
  have a2 : ∀ k i f, ¬ (k = 5 ∧ f = 2) → ¬ (k = 6 ∧ f = 11) → σ3.2 k i f = σ.2 k i f := fun k i f x y => by
    rw [w2, u4 k i f (by omega), q4 k i f (by omega)]
  obtain ⟨⟨kk, k2, k1, kj⟩, eK⟩ : (kal A B) ∧ True := ⟨hk, trivial⟩
  obtain ⟨r1', r2', r3', r4'⟩ := hr
  obtain ⟨h1, h2, h3, h4', h5, ⟨s1, s2, s3⟩, ⟨p1, p2, p3, p4⟩⟩ := hB
  have row12 : ∀ k, B 12 k = A 12 k := fun k => funext fun x => kk 12 k x (by decide) (by decide) (by decide) (by omega) (by omega)
  have b6 : ∀ b f, f ≠ 11 → f ≠ 12 → B 6 b f = A 6 b f := fun b f x y => kk 6 b f (by decide) (by decide) (by decide) (by omega) (by omega)
  have e : ∀ k i f, k ≠ 0 → (sI σ3 0 0 6 (nI (A 0 0 6))).1 k i f = σ3.1 k i f := fun k i f x => by rw [sI_eq, if_neg (by omega)]
  refine ⟨σ3, ?_, fun k i f hk => ⟨a1 k i f (by omega) (by omega) (by omega), a2 k i f (by omega) (by omega)⟩, fun i hi => ?_, fun b hb => ?_, fun b hb x hx => ?_, fun b hb x hx => ?_, fun b hb c hc => ?_, ⟨?_, ?_, fun j hj => ?_⟩, ⟨?_, ?_, ?_, ?_⟩⟩
  · unfold FX4_recallAll
    rw [show LX4_recallAll_10 ns nb 4100 0 σ = _ from q1, Option.bind_some, show LX4_recallAll_46 ns nb 4100 0 σ1 = _ from u1, Option.bind_some, e3]
    rfl
  · obtain ⟨c0, -, -, -, c4⟩ := h1 i hi
    obtain ⟨x1, x2, x3⟩ := q2 i (Nat.zero_le _) hi
    obtain ⟨y1, y2, y3⟩ := r1' i hi
    rw [sI_2, e _ _ _ (by decide), e _ _ _ (by decide), e _ _ _ (by decide), e _ _ _ (by decide), a1 5 i 0 (by omega) (by omega) (by omega), a1 5 i 4 (by omega) (by omega) (by omega), w1 5 i 1 (by omega), w1 5 i 3 (by omega), w2, u3 5 i 1 (by omega), u3 5 i 3 (by omega), u4 5 i 2 (by omega), x1, x2, x3, y1, y2, y3, c0, c4, kk 5 i 0 (by decide) (by decide) (by decide) (by omega) (by omega), kk 5 i 4 (by decide) (by decide) (by decide) (by omega) (by omega)]
    exact ⟨rfl, rfl, rfl, rfl, rfl⟩
  · obtain ⟨c0, c1, c2, c3, c4, c8, c9, c10, -, -⟩ := h2 b hb
    obtain ⟨x1, x2⟩ := u2 b (Nat.zero_le _) hb
    obtain ⟨y1, y2⟩ := r2' b hb
    have z : ∀ f, f ≠ 12 → (sI σ3 0 0 6 (nI (A 0 0 6))).1 6 b f = σ.1 6 b f := fun f hf => by rw [e _ _ _ (by decide), a1 6 b f (by omega) (by omega) (by omega)]
    rw [sI_2, z 0 (by decide), z 1 (by decide), z 2 (by decide), z 3 (by decide), z 4 (by decide), z 8 (by decide), z 9 (by decide), e _ _ _ (by decide), w1 6 b 12 (by omega), a2 6 b 10 (by omega) (by omega), w2, x1, x2, q4 6 b 13 (by omega), q3 6 b 14 (by omega), y1, y2, c0, c1, c2, c3, c4, c8, c9, c10, b6 b 0 (by decide) (by decide), b6 b 1 (by decide) (by decide), b6 b 2 (by decide) (by decide), b6 b 3 (by decide) (by decide), b6 b 4 (by decide) (by decide), b6 b 8 (by decide) (by decide), b6 b 9 (by decide) (by decide), b6 b 10 (by decide) (by decide)]
    exact ⟨rfl, rfl, rfl, rfl, rfl, rfl, rfl, rfl, rfl, rfl⟩
  · rw [e _ _ _ (by decide), a1 7 b x (by omega) (by omega) (by omega), h3 b hb x hx, kk 7 b x (by decide) (by decide) (by decide) (by omega) (by omega)]
  · rw [e _ _ _ (by decide), a1 8 b x (by omega) (by omega) (by omega), h4' b hb x hx, kk 8 b x (by decide) (by decide) (by decide) (by omega) (by omega)]
  · have g := h5 b hb c hc
    rw [row12, b6 b 2 (by decide) (by decide)] at g
    refine ⟨?_, fun x hx => ?_, fun x hx => ?_⟩
    · rw [e _ _ _ (by decide), a1 _ _ _ (by omega) (by omega) (by omega)]; exact g.1
    · rw [e _ _ _ (by decide), a1 _ _ _ (by omega) (by omega) (by omega)]; exact g.2.1 x hx
    · rw [e _ _ _ (by decide), a1 _ _ _ (by omega) (by omega) (by omega)]; exact g.2.2 x hx
  · have : σ3.1 3 0 1 = σ2.1 3 0 3 := by rw [e3]; rfl
    rw [e _ _ _ (by decide), this, u3 3 0 3 (by omega), q3 3 0 3 (by omega)]
    exact r3'
  · have : σ3.1 3 0 2 = σ2.1 3 0 4 := by rw [e3]; rfl
    rw [e _ _ _ (by decide), this, u3 3 0 4 (by omega), q3 3 0 4 (by omega)]
    exact r4'
  · rw [e _ _ _ (by decide), a1 4 0 j (by omega) (by omega) (by omega), s3 j (by omega), kj j hj]
  · rw [sI_eq, if_neg (by omega), a1 0 0 3 (by omega) (by omega) (by omega)]; exact p1
  · rw [sI_eq, if_neg (by omega), a1 0 0 4 (by omega) (by omega) (by omega)]; exact p2
  · have ec : cpA B = cpA A := by
      have k23 : ∀ a b, B 23 a b = A 23 a b := fun a b => kk 23 a b (by decide) (by decide) (by decide) (by omega) (by omega)
      unfold cpA
      rw [k23, k23, k23, k23, k23, k23]
    rw [sI_eq, if_neg (by omega), a1 0 0 5 (by omega) (by omega) (by omega), p3, ec]
  · rw [sI_eq, if_pos ⟨rfl, rfl, rfl⟩]
