/-! A TICK, IN THE REFERENCE: NOTES AND TURNS -/
theorem Mx.sp {A : Ab} {ns nb : Nat} {g : Int32} {τ : Sg} (h : Mx A ns nb g τ) {i f v : Nat} (hi : i < 4) (hf : f < 5) : Mx (aU A 5 i f v) ns nb g (sI τ 21 0 (5 * i + f) (nI v)) := by
  obtain ⟨h1, h2, h3, h4, h5, h6, h7, h8⟩ := h
  refine ⟨fun j hj k hk => ?_, h2, h3, h4, h5, h6, h7, h8⟩
  have := h1 j hj k hk
  by_cases hji : j = i ∧ k = f
  · obtain ⟨rfl, rfl⟩ := hji
    simp [sI_eq, aU_eq]
  · have e : ¬ (5 * j + k = 5 * i + f) := by omega
    have e2 : ¬ (j = i ∧ k = f) := hji
    simp only [sI_eq, aU_eq, e, and_false, if_false]
    rw [if_neg (by intro q; exact e2 q.2)]
    exact this
theorem Mx.b12 {A : Ab} {ns nb : Nat} {g : Int32} {τ : Sg} (h : Mx A ns nb g τ) {b v : Nat} : Mx (aU A 6 b 12 v) ns nb g (sI τ 22 0 (11 * b + 9) (nI v)) := by
  obtain ⟨h1, h2, h3, h4, h5, h6, h7, h8⟩ := h
  refine ⟨h1, fun j hj => ?_, h3, h4, h5, h6, h7, h8⟩
  have a := h2 j hj
  by_cases q : j = b
  · subst q
    obtain ⟨a0, a1, a2, a3, a4, a5, a6, a7, a8, a9, a10⟩ := a
    simp [sI_eq, aU_eq, a0, a1, a2, a3, a4, a5, a6, a7, a8, a10]
  · have e : ∀ f, f < 11 → (sI τ 22 0 (11 * b + 9) (nI v)).1 22 0 (11 * j + f) = τ.1 22 0 (11 * j + f) := fun f hf => (sI_eq _ _ _ _ _ _ _ _).trans (if_neg (by omega))
    have e0 : (sI τ 22 0 (11 * b + 9) (nI v)).1 22 0 (11 * j) = τ.1 22 0 (11 * j) := e 0 (by decide)
    have ea : ∀ f, aU A 6 b 12 v 6 j f = A 6 j f := fun f => by simp [aU_eq, q]
    simp only [e0, e 1 (by decide), e 2 (by decide), e 3 (by decide), e 4 (by decide), e 5 (by decide), e 6 (by decide), e 7 (by decide), e 8 (by decide), e 9 (by decide), e 10 (by decide), ea]
    exact a
theorem Mx.b11 {A : Ab} {ns nb : Nat} {g : Int32} {τ : Sg} (h : Mx A ns nb g τ) {b v : Nat} : Mx (aU A 6 b 11 v) ns nb g (sI (sI τ 22 0 (11 * b + 8) (nI v)) 22 0 (11 * b + 5) (nI (v % A 6 b 2))) := by
  obtain ⟨h1, h2, h3, h4, h5, h6, h7, h8⟩ := h
  refine ⟨h1, fun j hj => ?_, h3, h4, h5, h6, h7, h8⟩
  have a := h2 j hj
  by_cases q : j = b
  · subst q
    obtain ⟨a0, a1, a2, a3, a4, a5, a6, a7, a8, a9, a10⟩ := a
    simp [sI_eq, aU_eq, a0, a1, a2, a3, a4, a6, a7, a9, a10]
  · have e : ∀ f, f < 11 → (sI (sI τ 22 0 (11 * b + 8) (nI v)) 22 0 (11 * b + 5) (nI (v % A 6 b 2))).1 22 0 (11 * j + f) = τ.1 22 0 (11 * j + f) := fun f hf => ((sI_eq _ _ _ _ _ _ _ _).trans (if_neg (by omega))).trans ((sI_eq _ _ _ _ _ _ _ _).trans (if_neg (by omega)))
    have e0 : (sI (sI τ 22 0 (11 * b + 8) (nI v)) 22 0 (11 * b + 5) (nI (v % A 6 b 2))).1 22 0 (11 * j) = τ.1 22 0 (11 * j) := e 0 (by decide)
    have ea : ∀ f, aU A 6 b 11 v 6 j f = A 6 j f := fun f => by simp [aU_eq, q]
    simp only [e0, e 1 (by decide), e 2 (by decide), e 3 (by decide), e 4 (by decide), e 5 (by decide), e 6 (by decide), e 7 (by decide), e 8 (by decide), e 9 (by decide), e 10 (by decide), ea]
    exact a
theorem Mx.tk {A : Ab} {ns nb : Nat} {g : Int32} {τ : Sg} (h : Mx A ns nb g τ) {v : Nat} : Mx (aU A 0 0 6 v) ns nb g (sI τ 20 0 1 (nI v)) := by
  obtain ⟨h1, h2, h3, h4, h5, h6, h7, ⟨p2, p3, p1, p13⟩⟩ := h
  exact ⟨h1, h2, h3, h4, h5, h6, h7, p2, p3, rfl, p13⟩
theorem Mx.hr1 {A : Ab} {ns nb : Nat} {g : Int32} {τ : Sg} (h : Mx A ns nb g τ) (hg : g ≠ 0) {b l : Nat} : Mx (hrA A b l) ns nb g τ := by
  obtain ⟨h1, h2, h3, h4, h5, h6, h7, h8⟩ := h
  unfold hrA
  by_cases hk : A 3 0 1 < 250
  · rw [if_pos hk]
    exact ⟨h1, h2, h3, h4, h5, fun q => absurd q hg, h7, h8⟩
  · rw [if_neg hk]
    exact ⟨h1, h2, h3, h4, h5, fun q => absurd q hg, h7, h8⟩
/-- how the reference's state goes on -/
def okM (g : Int32) (σ τ : Sg) : Prop := frM σ τ ∧ kN σ ≤ kN τ ∧ (∀ k i f, (k = 28 ∨ k = 29 ∨ (k = 20 ∧ f = 0)) → τ.1 k i f = σ.1 k i f) ∧ (g ≠ 0 → (∀ i f, τ.1 27 i f = σ.1 27 i f) ∧ τ.1 20 0 10 = σ.1 20 0 10 ∧ τ.1 20 0 11 = σ.1 20 0 11)
theorem okM.rf {g : Int32} {σ : Sg} : okM g σ σ := ⟨frM.rf, Nat.le_refl _, fun _ _ _ _ => rfl, fun _ => ⟨fun _ _ => rfl, rfl, rfl⟩⟩
theorem okM.tr {g : Int32} {a b c : Sg} (h : okM g a b) (h2 : okM g b c) : okM g a c := ⟨h.1.tr h2.1, Nat.le_trans h.2.1 h2.2.1, fun k i f hk => (h2.2.2.1 k i f hk).trans (h.2.2.1 k i f hk), fun hg => ⟨fun i f => ((h2.2.2.2 hg).1 i f).trans ((h.2.2.2 hg).1 i f), (h2.2.2.2 hg).2.1.trans (h.2.2.2 hg).2.1, (h2.2.2.2 hg).2.2.trans (h.2.2.2 hg).2.2⟩⟩
theorem okM_I {g : Int32} {σ : Sg} {k i f : Nat} {v : Int32} (h : 20 ≤ k) (h2 : k < 27) (h3 : k ≠ 20 ∨ (f ≠ 10 ∧ f ≠ 11 ∧ f ≠ 0)) : okM g σ (sI σ k i f v) := by
  have e : (sI σ k i f v).1 20 0 11 = σ.1 20 0 11 := if_neg (by omega)
  refine ⟨frM_I h (by omega), ?_, fun k' i' f' hk => if_neg (by omega), fun _ => ⟨fun i' f' => if_neg (by omega), if_neg (by omega), e⟩⟩
  unfold kN
  rw [e]
  exact Nat.le_refl _
theorem Mx.hr0 {A : Ab} {ns nb : Nat} {τ : Sg} (h : Mx A ns nb 0 τ) {b l : Nat} (hk : A 3 0 1 < 250) {F : Nat → Int32} (hF : ∀ j, j < 4 * A 3 0 1 → F j = τ.1 27 0 j) (f0 : F (4 * A 3 0 1) = nI (A 0 0 6)) (f1 : F (4 * A 3 0 1 + 1) = nI b) (f2 : F (4 * A 3 0 1 + 2) = nI l) (f3 : F (4 * A 3 0 1 + 3) = nI (A 8 b l)) : Mx (hrA A b l) ns nb 0 (sI (sC (sI τ 20 0 10 (nI (A 3 0 2 + 1))) 27 F) 20 0 11 (nI (A 3 0 1 + 1))) := by
  obtain ⟨h1, h2, h3, h4, h5, h6, h7, h8⟩ := h
  obtain ⟨s1, s2, s3⟩ := h6 rfl
  unfold hrA
  rw [if_pos hk]
  refine ⟨h1, h2, h3, h4, h5, fun _ => ⟨rfl, rfl, fun j hj => ?_⟩, h7, h8⟩
  have hj : j < 4 * (A 3 0 1 + 1) := hj
  have hA : aU (aU (aU (aU (aU (aU A 3 0 2 (A 3 0 2 + 1)) 4 0 (4 * A 3 0 1) (A 0 0 6)) 4 0 (4 * A 3 0 1 + 1) b) 4 0 (4 * A 3 0 1 + 2) l) 4 0 (4 * A 3 0 1 + 3) (A 8 b l)) 3 0 1 (A 3 0 1 + 1) 4 0 j = if j = 4 * A 3 0 1 + 3 then A 8 b l else if j = 4 * A 3 0 1 + 2 then l else if j = 4 * A 3 0 1 + 1 then b else if j = 4 * A 3 0 1 then A 0 0 6 else A 4 0 j := by simp [aU_eq]
  have hS : (sI (sC (sI τ 20 0 10 (nI (A 3 0 2 + 1))) 27 F) 20 0 11 (nI (A 3 0 1 + 1))).1 27 0 j = F j := rfl
  rw [hA, hS]
  by_cases q3 : j = 4 * A 3 0 1 + 3
  · rw [if_pos q3, q3, f3]
  · rw [if_neg q3]
    by_cases q2 : j = 4 * A 3 0 1 + 2
    · rw [if_pos q2, q2, f2]
    · rw [if_neg q2]
      by_cases q1 : j = 4 * A 3 0 1 + 1
      · rw [if_pos q1, q1, f1]
      · rw [if_neg q1]
        by_cases q0 : j = 4 * A 3 0 1
        · rw [if_pos q0, q0, f0]
        · rw [if_neg q0, hF j (by omega)]
          exact s3 j (by omega)
theorem Mx.hr2 {A : Ab} {ns nb : Nat} {τ : Sg} (h : Mx A ns nb 0 τ) {b l : Nat} (hk : ¬ A 3 0 1 < 250) : Mx (hrA A b l) ns nb 0 (sI τ 20 0 10 (nI (A 3 0 2 + 1))) := by
  obtain ⟨h1, h2, h3, h4, h5, h6, h7, h8⟩ := h
  obtain ⟨s1, s2, s3⟩ := h6 rfl
  unfold hrA
  rw [if_neg hk]
  exact ⟨h1, h2, h3, h4, h5, fun _ => ⟨s1, rfl, s3⟩, h7, h8⟩
theorem noteM {A : Ab} {ns nb b l : Nat} {g : Int32} {τ : Sg} (hM : Mx A ns nb g τ) (h0 : A 6 b 0 < 4) (h8 : nb ≤ 8) (hb : b < nb) (hl : l < 6) (hh : A 5 (A 6 b 0) 1 ≤ 200000) (hk : A 3 0 1 ≤ 250) : ∃ τ' : Sg, FX5_note ns nb τ (nI b) (nI l) = some τ' ∧ okM g τ τ' ∧ Mx (noteA A b l) ns nb g τ' := by
  obtain ⟨s, es⟩ : ∃ s, s = A 6 b 0 := ⟨_, rfl⟩
  have hg0 : FX5_get ns nb τ (nI b) 0 = some (nI s, τ) := by rw [es]; exact (gtBX (ns := ns) hM h8 hb).1
  have hg := ix5 (i := s) (f := 1) (by omega) (by decide)
  have hg1 : ¬ ((5 * nI s + 1) < 0 ∨ 20 ≤ (5 * nI s + 1).toNatClampNeg) := hg.1
  have hg2 : (5 * nI s + 1).toNatClampNeg = 5 * s + 1 := hg.2
  have hg3 : ¬ ((5 * nI s + 1) < 0 ∨ 20 ≤ 5 * s + 1) := by rw [← hg2]; exact hg1
  have m1 : τ.1 21 0 (5 * s + 1) = nI (A 5 s 1) := hM.1 s (by omega) 1 (by decide)
  have ev : nI (A 5 s 1) - mnI 10 (nI (A 5 s 1)) = nI (A 5 s 1 - min 10 (A 5 s 1)) := by
    rw [← es] at hh
    rw [show mnI 10 (nI (A 5 s 1)) = nI (min 10 (A 5 s 1)) from mn_nI (by decide) (by omega), pk_sub (by omega)]
  have hM1 : Mx (payA A s) ns nb g (sI τ 21 0 (5 * s + 1) (nI (A 5 s 1 - min 10 (A 5 s 1)))) := hM.sp (by omega) (by decide)
  have g9 : FX5_get ns nb (sI τ 21 0 (5 * s + 1) (nI (A 5 s 1 - min 10 (A 5 s 1)))) (nI b) 9 = some (nI (A 6 b 12), sI τ 21 0 (5 * s + 1) (nI (A 5 s 1 - min 10 (A 5 s 1)))) := by
    have := (hM1.2.1 b hb).2.2.2.2.2.2.2.2.2.1
    rw [show payA A s 6 b 12 = A 6 b 12 from aU_k (by decide)] at this
    rw [← this]
    exact gt5 (f := 9) (by omega) (by decide)
  have hM2 := hM1.b12 (b := b) (v := A 6 b 12 + 1)
  have hok2 : okM g τ (sI (sI τ 21 0 (5 * s + 1) (nI (A 5 s 1 - min 10 (A 5 s 1)))) 22 0 (11 * b + 9) (nI (A 6 b 12 + 1))) := (okM_I (by decide) (by decide) (Or.inl (by decide))).tr (okM_I (by decide) (by decide) (Or.inl (by decide)))
  obtain ⟨ρ, eρ⟩ : ∃ ρ, ρ = sI (sI τ 21 0 (5 * s + 1) (nI (A 5 s 1 - min 10 (A 5 s 1)))) 22 0 (11 * b + 9) (nI (A 6 b 12 + 1)) := ⟨_, rfl⟩
  have s9 : FX5_set ns nb (sI τ 21 0 (5 * s + 1) (nI (A 5 s 1 - min 10 (A 5 s 1)))) (nI b) 9 (nI (A 6 b 12 + 1)) = some ρ := by
    rw [eρ]
    exact st5 (f := 9) (by omega) (by decide)
  rw [← eρ] at hM2 hok2
  have e13 : ρ.1 20 0 13 = g := hM2.2.2.2.2.2.2.2.2.2.2
  have fin : ∀ τ', (if ρ.1 20 0 13 = 0 then (if ((sI ρ 20 0 10 ((ρ.1 20 0 10) + 1)).1 20 0 11) = 250 then (some (sI ρ 20 0 10 ((ρ.1 20 0 10) + 1))) else (((if (((6 * (nI b)) + (nI l)) < 0 ∨ 48 ≤ ((6 * (nI b)) + (nI l)).toNatClampNeg) then none else (if (¬ (4 * ((sI ρ 20 0 10 ((ρ.1 20 0 10) + 1)).1 20 0 11)) < 0 ∧ (4 * ((sI ρ 20 0 10 ((ρ.1 20 0 10) + 1)).1 20 0 11)).toNatClampNeg + (4 : Int32).toNatClampNeg ≤ aln 27) then (some (sI (sC (sI ρ 20 0 10 ((ρ.1 20 0 10) + 1)) 27 (va_cpy (upd (upd (upd (upd (fun _ => 0) (0 : Int32).toNatClampNeg ((sI ρ 20 0 10 ((ρ.1 20 0 10) + 1)).1 20 0 1)) (1 : Int32).toNatClampNeg (nI b)) (2 : Int32).toNatClampNeg (nI l)) (3 : Int32).toNatClampNeg ((sI ρ 20 0 10 ((ρ.1 20 0 10) + 1)).1 25 0 ((6 * (nI b)) + (nI l)).toNatClampNeg)) ((sI ρ 20 0 10 ((ρ.1 20 0 10) + 1)).1 27 0) (0 : Int32).toNatClampNeg (4 * ((sI ρ 20 0 10 ((ρ.1 20 0 10) + 1)).1 20 0 11)).toNatClampNeg (4 : Int32).toNatClampNeg)) 20 0 11 (((sC (sI ρ 20 0 10 ((ρ.1 20 0 10) + 1)) 27 (va_cpy (upd (upd (upd (upd (fun _ => 0) (0 : Int32).toNatClampNeg ((sI ρ 20 0 10 ((ρ.1 20 0 10) + 1)).1 20 0 1)) (1 : Int32).toNatClampNeg (nI b)) (2 : Int32).toNatClampNeg (nI l)) (3 : Int32).toNatClampNeg ((sI ρ 20 0 10 ((ρ.1 20 0 10) + 1)).1 25 0 ((6 * (nI b)) + (nI l)).toNatClampNeg)) ((sI ρ 20 0 10 ((ρ.1 20 0 10) + 1)).1 27 0) (0 : Int32).toNatClampNeg (4 * ((sI ρ 20 0 10 ((ρ.1 20 0 10) + 1)).1 20 0 11)).toNatClampNeg (4 : Int32).toNatClampNeg)).1 20 0 11) + 1))) else none)).bind fun r => if kN τ + 1 ≤ kN r then some r else none))) else (some ρ)) = some τ' → okM g ρ τ' → Mx (noteA A b l) ns nb g τ' → ∃ τ' : Sg, FX5_note ns nb τ (nI b) (nI l) = some τ' ∧ okM g τ τ' ∧ Mx (noteA A b l) ns nb g τ' := by
    intro τ' e1 e2 e3
    have hok := hok2.tr e2
    refine ⟨τ', ?_, hok, e3⟩
    unfold FX5_note
    rw [hg0, Option.bind_some]
    dsimp only
    rw [if_neg hg1, if_neg hg1, if_neg hg1, hg2, m1, ev, g9, Option.bind_some]
    dsimp only
    rw [nI_1, s9, Option.bind_some]
    rw [e1, Option.bind_some, if_pos hok.2.1]
  by_cases hz : g = 0
  · subst hz
    obtain ⟨q1, q2, q3⟩ := hM2.2.2.2.2.2.1 rfl
    have q1' : ρ.1 20 0 11 = nI (A 3 0 1) := q1
    have q2' : ρ.1 20 0 10 = nI (A 3 0 2) := q2
    have t1 : ρ.1 20 0 1 = nI (A 0 0 6) := hM2.2.2.2.2.2.2.2.2.2.1
    have t25 : ρ.1 25 0 (6 * b + l) = nI (A 8 b l) := hM2.2.2.2.1 b hb l hl
    have f11 : (sI ρ 20 0 10 (nI (A 3 0 2 + 1))).1 20 0 11 = nI (A 3 0 1) := q1
    by_cases hK : A 3 0 1 < 250
    · have hi := ixg 6 (i := b) (f := l) (N := 48) (by omega) (by decide)
      have hi1 : ¬ ((6 * nI b + nI l) < 0 ∨ 48 ≤ (6 * nI b + nI l).toNatClampNeg) := hi.1
      have hi2 : (6 * nI b + nI l).toNatClampNeg = 6 * b + l := hi.2
      have e4 : (4 : Int32) * nI (A 3 0 1) = nI (4 * A 3 0 1) := by rw [show (4 : Int32) = nI 4 from rfl, pk_mul]
      have c0 : (0 : Int32).toNatClampNeg = 0 := by decide
      have c1 : (1 : Int32).toNatClampNeg = 1 := by decide
      have c2 : (2 : Int32).toNatClampNeg = 2 := by decide
      have c3 : (3 : Int32).toNatClampNeg = 3 := by decide
      have c4 : (4 : Int32).toNatClampNeg = 4 := by decide
      have hcp : ∀ j, va_cpy (upd (upd (upd (upd (fun _ => 0) 0 (nI (A 0 0 6))) 1 (nI b)) 2 (nI l)) 3 (nI (A 8 b l))) ((sI ρ 20 0 10 (nI (A 3 0 2 + 1))).1 27 0) 0 (4 * A 3 0 1) 4 j = if 4 * A 3 0 1 ≤ j ∧ j < 4 * A 3 0 1 + 4 then upd (upd (upd (upd (fun _ => 0) 0 (nI (A 0 0 6))) 1 (nI b)) 2 (nI l)) 3 (nI (A 8 b l)) (0 + (j - 4 * A 3 0 1)) else ρ.1 27 0 j := fun j => rfl
      have hMf := Mx.hr0 hM2 (b := b) (l := l) hK (F := va_cpy (upd (upd (upd (upd (fun _ => 0) 0 (nI (A 0 0 6))) 1 (nI b)) 2 (nI l)) 3 (nI (A 8 b l))) ((sI ρ 20 0 10 (nI (A 3 0 2 + 1))).1 27 0) 0 (4 * A 3 0 1) 4) (fun j hj => by
        have hj : j < 4 * A 3 0 1 := hj
        rw [hcp, if_neg (by omega)]) (by
        show va_cpy _ _ 0 (4 * A 3 0 1) 4 (4 * A 3 0 1) = nI (A 0 0 6)
        rw [hcp, if_pos (by omega), Nat.sub_self]
        rfl) (by
        show va_cpy _ _ 0 (4 * A 3 0 1) 4 (4 * A 3 0 1 + 1) = nI b
        rw [hcp, if_pos (by omega), Nat.add_sub_cancel_left]
        rfl) (by
        show va_cpy _ _ 0 (4 * A 3 0 1) 4 (4 * A 3 0 1 + 2) = nI l
        rw [hcp, if_pos (by omega), Nat.add_sub_cancel_left]
        rfl) (by
        show va_cpy _ _ 0 (4 * A 3 0 1) 4 (4 * A 3 0 1 + 3) = nI (A 8 b l)
        rw [hcp, if_pos (by omega), Nat.add_sub_cancel_left]
        rfl)
      have kr : kN ρ = A 3 0 1 := by
        unfold kN
        rw [q1', nI_clamp (by omega)]
      have kt : kN τ = A 3 0 1 := by
        unfold kN
        rw [(hM.2.2.2.2.2.1 rfl).1, nI_clamp (by omega)]
      have kf : ∀ F, kN (sI (sC (sI ρ 20 0 10 (nI (A 3 0 2 + 1))) 27 F) 20 0 11 (nI (A 3 0 1 + 1))) = A 3 0 1 + 1 := fun F => by
        unfold kN
        rw [sI_eq, if_pos ⟨rfl, rfl, rfl⟩, nI_clamp (by omega)]
      refine fin (sI (sC (sI ρ 20 0 10 (nI (A 3 0 2 + 1))) 27 (va_cpy (upd (upd (upd (upd (fun _ => 0) 0 (nI (A 0 0 6))) 1 (nI b)) 2 (nI l)) 3 (nI (A 8 b l))) ((sI ρ 20 0 10 (nI (A 3 0 2 + 1))).1 27 0) 0 (4 * A 3 0 1) 4)) 20 0 11 (nI (A 3 0 1 + 1))) ?_ ⟨?_, by rw [kr, kf]; exact Nat.le_succ _, ?_, fun q => absurd rfl q⟩ ?_
      · have s11 : ∀ F, (sC (sI ρ 20 0 10 (nI (A 3 0 2 + 1))) 27 F).1 20 0 11 = nI (A 3 0 1) := fun F => q1
        have s1 : (sI ρ 20 0 10 (nI (A 3 0 2 + 1))).1 20 0 1 = nI (A 0 0 6) := t1
        have s25 : (sI ρ 20 0 10 (nI (A 3 0 2 + 1))).1 25 0 (6 * b + l) = nI (A 8 b l) := t25
        rw [if_pos e13, q2', nI_1, f11, if_neg (show ¬ nI (A 3 0 1) = 250 from fun q => absurd ((nI_eq (b := 250) (by omega) (by decide)).mp q) (by omega)), if_neg hi1, hi2, e4, nI_clamp (by omega), if_pos ⟨nI_pos (by omega), by rw [c4]; show 4 * A 3 0 1 + 4 ≤ 1000; omega⟩, s1, s25, c0, c1, c2, c3, c4, s11, nI_1, Option.bind_some, kt, kf, if_pos (Nat.le_refl _)]
      · intro k i f hk'
        exact ⟨((if_neg (by omega)).trans (if_neg (by omega))).trans (if_neg (by omega)), rfl⟩
      · intro k i f hk'
        exact ((if_neg (by omega)).trans (if_neg (by omega))).trans (if_neg (by omega))
      · unfold noteA
        rw [← es]
        exact hMf
    · have hMf := Mx.hr2 hM2 (b := b) (l := l) hK
      have k1 : okM 0 ρ (sI ρ 20 0 10 (nI (A 3 0 2 + 1))) := by
        refine ⟨frM_I (by decide) (by decide), ?_, fun k i f hk => if_neg (by omega), fun q => absurd rfl q⟩
        unfold kN
        exact Nat.le_refl _
      refine fin (sI ρ 20 0 10 (nI (A 3 0 2 + 1))) ?_ k1 ?_
      · rw [if_pos e13, q2', nI_1, f11, if_pos (by rw [show A 3 0 1 = 250 by omega]; rfl)]
      · unfold noteA
        rw [← es]
        exact hMf
  · refine fin ρ ?_ okM.rf ?_
    · rw [if_neg (fun q => hz (e13.symm.trans q))]
    · unfold noteA
      rw [← es]
      exact hM2.hr1 hz
theorem note_U (A : Ab) (b l w : Nat) : noteA (aU A 6 b 11 w) b l = aU (noteA A b l) 6 b 11 w := by
  have e0 : aU A 6 b 11 w 6 b 0 = A 6 b 0 := aU_f (by decide)
  have e1 : aU A 6 b 11 w 5 (A 6 b 0) 1 = A 5 (A 6 b 0) 1 := aU_k (by decide)
  have e2 : aU A 6 b 11 w 6 b 12 = A 6 b 12 := aU_f (by decide)
  unfold noteA payA
  have h1 : ∀ p q, aU (aU (aU A 5 (A 6 b 0) 1 p) 6 b 12 q) 6 b 11 w = aU (aU (aU A 6 b 11 w) 5 (A 6 b 0) 1 p) 6 b 12 q := fun p q => by
    have h2 : aU (aU A 5 (A 6 b 0) 1 p) 6 b 11 w = aU (aU A 6 b 11 w) 5 (A 6 b 0) 1 p := aU_sw (by omega)
    rw [← h2]
    exact aU_sw (by omega)
  rw [e0, e1, e2, hrA_U (Or.inr rfl), h1]
theorem levM {ns nb T b v w : Nat} {g : Int32} {v2 v5 v6 : Int32} (hb : b < nb) (hv : v < 64) : ∀ (m l fuel : Nat) (A : Ab) (τ : Sg), l + m = 6 → m < fuel → Wf A ns nb T → Mx (aU A 6 b 11 w) ns nb g τ → ∃ τ' : Sg, LX5_turn_101 ns nb (nI b) v2 v5 v6 (nI v) fuel (nI l) τ = some τ' ∧ okM g τ τ' ∧ Mx (aU (levA b v m l A) 6 b 11 w) ns nb g τ' := by
  intro m
  induction m with
  | zero =>
    intro l fuel A τ hl hf hW hM
    obtain ⟨u, rfl⟩ : ∃ u, fuel = u + 1 := ⟨fuel - 1, by omega⟩
    have : l = 6 := by omega
    subst this
    refine ⟨τ, ?_, okM.rf, hM⟩
    rw [LX5_turn_101, if_pos (show (6 : Int32) ≤ nI 6 by decide)]
  | succ m ih =>
    intro l fuel A τ hl hf hW hM
    obtain ⟨u, rfl⟩ : ∃ u, fuel = u + 1 := ⟨fuel - 1, by omega⟩
    have eb := pn_bit ⟨v, hv⟩ ⟨l, by omega⟩
    dsimp only at eb
    rw [LX5_turn_101, if_neg (show ¬ ((6 : Int32) ≤ nI l) from nI_ge (b := 6) (by omega) (by omega)), eb, levA, nI_1]
    by_cases q : v / 2 ^ l % 2 = 1
    · have w0 := (hW.2.2.2.2.1 b hb).1
      have h4 := hW.1
      obtain ⟨n1, n2, -⟩ := note_ok (l := l) hW hb
      have e0 : aU A 6 b 11 w 6 b 0 = A 6 b 0 := aU_f (by decide)
      obtain ⟨τ1, p1, p2, p3⟩ := noteM (b := b) (l := l) hM (by rw [e0]; omega) hW.2.1 hb (by omega) (by rw [e0]; exact (hW.2.2.2.1.1 _ w0).2.2.1) hW.2.2.2.2.2.2.2.2.1.1
      rw [note_U] at p3
      obtain ⟨τ', t1, t2, t3⟩ := ih (l + 1) u (noteA A b l) τ1 (by omega) (by omega) n1 p3
      rw [if_pos q, q, if_pos (show nI 1 = 1 from rfl), p1, Option.bind_some, if_pos ⟨Nat.le_refl _, p2.2.1⟩, t1, Option.bind_some, if_pos t2.2.1, Option.bind_some, if_pos t2.2.1]
      exact ⟨τ', rfl, p2.tr t2, t3⟩
    · have q0 : v / 2 ^ l % 2 = 0 := by omega
      obtain ⟨τ', t1, t2, t3⟩ := ih (l + 1) u A τ (by omega) (by omega) hW hM
      rw [if_neg q, q0, if_neg (show ¬ nI 0 = 1 by decide), t1, Option.bind_some, if_pos t2.2.1]
      exact ⟨τ', rfl, t2, t3⟩
theorem barM {ns nb T b hi w n : Nat} {g : Int32} (hb : b < nb) (hh : hi < 2 ^ 30) : ∀ (m k fuel : Nat) (A : Ab) (τ : Sg), k + m = hi + 1 → m < fuel → A 6 b 2 = n → Wf A ns nb T → Mx (aU A 6 b 11 w) ns nb g τ → ∃ τ' : Sg, LX5_turn_75 ns nb (nI b) (nI n) (nI hi) fuel (nI k) τ = some τ' ∧ okM g τ τ' ∧ Mx (aU (barA b hi m A) 6 b 11 w) ns nb g τ' := by
  intro m
  induction m with
  | zero =>
    intro k fuel A τ hk hf h2 hW hM
    obtain ⟨u, rfl⟩ : ∃ u, fuel = u + 1 := ⟨fuel - 1, by omega⟩
    refine ⟨τ, ?_, okM.rf, hM⟩
    rw [LX5_turn_75, if_pos (nI_lt (by omega) (by omega))]
  | succ m ih =>
    intro k fuel A τ hk hf h2 hW hM
    obtain ⟨u, rfl⟩ : ∃ u, fuel = u + 1 := ⟨fuel - 1, by omega⟩
    have h8 := hW.2.1
    obtain ⟨-, -, w2, w3, -⟩ := hW.2.2.2.2.1 b hb
    rw [h2] at w2 w3
    have hx : k % n < n := Nat.mod_lt _ (by omega)
    have hi' := ixg 96 (i := b) (f := k % n) (N := 768) (by omega) (by decide)
    have hi1 : ¬ ((96 * nI b + nI (k % n)) < 0 ∨ 768 ≤ (96 * nI b + nI (k % n)).toNatClampNeg) := hi'.1
    have hi2 : (96 * nI b + nI (k % n)).toNatClampNeg = 96 * b + k % n := hi'.2
    have m24 : τ.1 24 0 (96 * b + k % n) = nI (A 7 b (k % n)) := hM.2.2.1 b (by omega) _ (by omega)
    obtain ⟨τ1, p1, p2, p3⟩ := levM (ns := ns) (T := T) (g := g) (w := w) (v := A 7 b (k % n)) (v2 := nI n) (v5 := nI hi) (v6 := nI k) hb (hW.2.2.2.2.2.1.1 b _) 6 0 4100 A τ (by omega) (by omega) hW hM
    obtain ⟨n1, n2, -⟩ := lev_ok (v := A 7 b (k % n)) hb 6 0 A hW
    obtain ⟨τ', t1, t2, t3⟩ := ih (k + 1) u _ τ1 (by omega) (by omega) (by rw [n2.1 6 b 2 (by decide) (by decide) (by omega) (by omega), h2]) n1 p3
    rw [LX5_turn_75, if_neg (nI_nlt (by omega) (by omega)), if_neg (nI_ne0 (by omega) (by omega)), pk_rem (by omega) (by omega) (by omega), if_neg hi1, hi2, m24, show LX5_turn_101 ns nb (nI b) (nI n) (nI hi) (nI k) (nI (A 7 b (k % n))) 4100 0 τ = _ from p1, Option.bind_some, if_pos ⟨Nat.le_refl _, p2.2.1⟩, nI_1, t1, Option.bind_some, if_pos t2.2.1, Option.bind_some, if_pos t2.2.1, barA, show hi - m = k by omega, h2]
    exact ⟨τ', rfl, p2.tr t2, t3⟩
theorem first_k {c f n : Nat} (hc : c < 2 ^ 30) (hf : f ≤ c) (hn : 1 ≤ n) (hn2 : n ≤ 96) : mxI (nI f + 1) (nI c - nI n + 1) = nI (c + 1 - min (c - f) n) := by
  rw [nI_1]
  by_cases h : n ≤ c
  · rw [pk_sub h, nI_1, mx_nI (by omega) (by omega)]
    congr 1
    omega
  · have e1 : (nI c - nI n + 1).toInt = (c : Int) - n + 1 := by
      have e0 : (nI c - nI n).toInt = (c : Int) - n := pk_sub_toInt (by omega) (by omega)
      rw [fb_addI, e0, Int32_1] <;> rw [e0, Int32_1] <;> omega
    unfold mxI
    rw [if_neg (by rw [Int32.lt_iff_toInt_lt, e1, nI_toInt (by omega)]; omega)]
    congr 1
    omega
theorem turnM {A : Ab} {ns nb T b : Nat} {g : Int32} {τ : Sg} (hM : Mx A ns nb g τ) (hW : Wf A ns nb T) (hT : T ≤ 516) (hb : b < nb) : ∃ τ' : Sg, FX5_turn ns nb τ (nI b) = some τ' ∧ okM g τ τ' ∧ Mx (turnA A b) ns nb g τ' := by
  have h8 := hW.2.1
  have h4 := hW.1
  obtain ⟨d1, d2, d3, d4⟩ := come_bd hW hT hb
  have hge := come_ge hW hb
  obtain ⟨b0, b1, b2, b3, b4, b5, b6, b7, b8, b9, b10, b11⟩ := hW.2.2.2.2.1 b hb
  obtain ⟨a0, a1, a2, a3, a4, a5, a6, a7, a8, a9, a10⟩ := hM.2.1 b hb
  have g0 : FX5_get ns nb τ (nI b) 0 = some (nI (A 6 b 0), τ) := by rw [← a0]; exact gt5 (f := 0) (by omega) (by decide)
  have g2 : FX5_get ns nb τ (nI b) 2 = some (nI (A 6 b 2), τ) := by rw [← a2]; exact gt5 (f := 2) (by omega) (by decide)
  have g3 : FX5_get ns nb τ (nI b) 3 = some (nI (A 6 b 3), τ) := by rw [← a3]; exact gt5 (f := 3) (by omega) (by decide)
  have g4 : FX5_get ns nb τ (nI b) 4 = some (nI (A 6 b 4), τ) := by rw [← a4]; exact gt5 (f := 4) (by omega) (by decide)
  have g8 : FX5_get ns nb τ (nI b) 8 = some (nI (A 6 b 11), τ) := by rw [← a8]; exact gt5 (f := 8) (by omega) (by decide)
  have g10 : FX5_get ns nb τ (nI b) 10 = some (nI (A 6 b 10), τ) := by rw [← a10]; exact gt5 (f := 10) (by omega) (by decide)
  have gs : FX5_sp ns nb τ (nI (A 6 b 0)) 2 = some (nI (A 5 (A 6 b 0) 2), τ) := by rw [← hM.1 (A 6 b 0) (by omega) 2 (by decide)]; exact sp5 (f := 2) (by omega) (by decide)
  have e4 : 1000 * (nI (A 6 b 4)).toInt64 = lN (1000 * A 6 b 4) := by
    rw [nI_l (by omega), show (1000 : Int64) = lN 1000 from rfl, lN_mul]
  have ec : (((nI (A 5 (A 6 b 0) 2) - nI (A 6 b 10)).toInt64 * (nI (A 6 b 3)).toInt64 * (nI (A 6 b 2)).toInt64) / lN (1000 * A 6 b 4)).toInt32 = nI (comeA A b) := by
    rw [pk_sub d3, nI_l (by omega), nI_l (by omega), nI_l (by omega), lN_mul, lN_mul, pk_lDiv (by omega) (by omega) (by omega), lN_i]
    rfl
  have hM0 : Mx (aU (aU A 6 b 11 (comeA A b)) 6 b 11 (A 6 b 11)) ns nb g τ := by
    rw [aU_tw, aU_id rfl]
    exact hM
  have e2 : aU A 6 b 11 (comeA A b) 6 b 2 = A 6 b 2 := aU_f (by decide)
  have hW0 := hW.gn (b := b) (Nat.le_refl (comeA A b))
  obtain ⟨τ1, t1, t2, t3⟩ := barM (ns := ns) (T := T) (g := g) (hi := comeA A b) (w := A 6 b 11) hb (by omega) (min (comeA A b - A 6 b 11) (A 6 b 2)) (comeA A b + 1 - min (comeA A b - A 6 b 11) (A 6 b 2)) 4100 _ τ (by omega) (by omega) e2 hW0 hM0
  obtain ⟨n1, n2⟩ := bar_ok (hi := comeA A b) hb (min (comeA A b - A 6 b 11) (A 6 b 2)) _ hW0
  have f11 : turnA A b 6 b 11 = comeA A b := (n2.1 6 b 11 (by decide) (by decide) (by omega) (by omega)).trans (aU_same _ _ _ _ _)
  have f2 : aU (turnA A b) 6 b 11 (A 6 b 11) 6 b 2 = A 6 b 2 := (aU_f (by decide)).trans ((n2.1 6 b 2 (by decide) (by decide) (by omega) (by omega)).trans e2)
  have t3 : Mx (aU (turnA A b) 6 b 11 (A 6 b 11)) ns nb g τ1 := t3
  have hMf := t3.b11 (b := b) (v := comeA A b)
  rw [aU_tw, aU_id f11, f2] at hMf
  have k1 : okM g τ1 (sI τ1 22 0 (11 * b + 8) (nI (comeA A b))) := okM_I (by decide) (by decide) (Or.inl (by decide))
  have k2 : okM g (sI τ1 22 0 (11 * b + 8) (nI (comeA A b))) (sI (sI τ1 22 0 (11 * b + 8) (nI (comeA A b))) 22 0 (11 * b + 5) (nI (comeA A b % A 6 b 2))) := okM_I (by decide) (by decide) (Or.inl (by decide))
  refine ⟨_, ?_, (t2.tr k1).tr k2, hMf⟩
  have s8 : FX5_set ns nb τ1 (nI b) 8 (nI (comeA A b)) = some (sI τ1 22 0 (11 * b + 8) (nI (comeA A b))) := st5 (f := 8) (by omega) (by decide)
  have s5 : FX5_set ns nb (sI τ1 22 0 (11 * b + 8) (nI (comeA A b))) (nI b) 5 (nI (comeA A b % A 6 b 2)) = some (sI (sI τ1 22 0 (11 * b + 8) (nI (comeA A b))) 22 0 (11 * b + 5) (nI (comeA A b % A 6 b 2))) := st5 (f := 5) (by omega) (by decide)
  unfold FX5_turn
  rw [g2, Option.bind_some]
  dsimp only
  rw [g0, Option.bind_some]
  dsimp only
  rw [gs, Option.bind_some]
  dsimp only
  rw [g10, Option.bind_some]
  dsimp only
  rw [g3, Option.bind_some]
  dsimp only
  rw [g4, Option.bind_some]
  dsimp only
  rw [e4, if_neg (lN_ne0 (by omega) (by omega)), g8, Option.bind_some]
  dsimp only
  rw [ec, first_k (by omega) hge (by omega) b3, t1, Option.bind_some, if_pos ⟨Nat.le_refl _, t2.2.1⟩, s8, Option.bind_some, if_neg (nI_ne0 (by omega) (by omega)), pk_rem (by omega) (by omega) (by omega), s5, Option.bind_some, Option.bind_some, if_pos (k1.tr k2).2.1, Option.bind_some, if_pos ((t2.tr k1).tr k2).2.1]
