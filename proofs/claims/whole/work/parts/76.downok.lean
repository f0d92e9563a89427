/-! RUNSDOWN -/
theorem dnM {A : Ab} {ns nb T : Nat} {g : Int32} {τ : Sg} (hM : Mx A ns nb g τ) (hW : Wf A ns nb T) : ∀ (m i fuel : Nat), i + m = ns → m < fuel → LX5_isDown_2 ns nb fuel (nI i) τ = some (nI (dnA A m i), τ) := by
  have h4 := hW.1
  have e2 : τ.1 20 0 2 = nI ns := hM.2.2.2.2.2.2.2.1
  intro m
  induction m with
  | zero =>
    intro i fuel hi hf
    obtain ⟨u, rfl⟩ : ∃ u, fuel = u + 1 := ⟨fuel - 1, by omega⟩
    rw [LX5_isDown_2, e2, if_pos (nI_le (by omega) (by omega))]
    rfl
  | succ m ih =>
    intro i fuel hi hf
    obtain ⟨u, rfl⟩ : ∃ u, fuel = u + 1 := ⟨fuel - 1, by omega⟩
    have i' := ih (i + 1) u (by omega) (by omega)
    obtain ⟨-, -, b3, -, b5⟩ := hW.2.2.2.1.1 i (by omega)
    have m1 : FX5_sp ns nb τ (nI i) 1 = some (nI (A 5 i 1), τ) := by rw [← hM.1 i (by omega) 1 (by decide)]; exact sp5 (f := 1) (by omega) (by decide)
    have m4 : FX5_sp ns nb τ (nI i) 4 = some (nI (A 5 i 4), τ) := by rw [← hM.1 i (by omega) 4 (by decide)]; exact sp5 (f := 4) (by omega) (by decide)
    rw [LX5_isDown_2, e2, if_neg (nI_ge (by omega) (by omega)), m4, Option.bind_some, nI_1, dnA]
    dsimp only
    by_cases h0 : A 5 i 4 = 0
    · rw [h0, if_pos (show nI 0 = 0 from rfl), m1, Option.bind_some]
      dsimp only
      by_cases h1 : A 5 i 1 = 0
      · rw [h1, if_pos (show nI 0 ≤ 0 by decide), if_neg (fun q => q.2 rfl)]
        exact i'
      · rw [if_neg (nI_nle (by omega) (by omega)), if_pos ⟨rfl, h1⟩]
        rfl
    · rw [if_neg (nI_ne0 (by omega) (by omega)), if_neg (fun q => h0 q.1)]
      exact i'
theorem downM {A : Ab} {ns nb T : Nat} {g : Int32} {τ : Sg} (hM : Mx A ns nb g τ) (hW : Wf A ns nb T) : FX5_isDown ns nb τ = some (nI (dnA A ns 0), τ) := by
  unfold FX5_isDown
  exact dnM hM hW ns 0 4100 (by omega) (by have := hW.1; omega)
theorem rdM {ns nb T j w : Nat} {g : Int32} (hT : T ≤ 516) (hj : w + j ≤ 500 * T) : ∀ (m fuel : Nat) (A : Ab) (τ : Sg), A 0 0 6 + m = w + j → m < fuel → Wf A ns nb T → Mx A ns nb g τ → ∃ τ' : Sg, LX5_runsDown_62 ns nb (nI j) (nI w) fuel τ = some τ' ∧ okM g τ τ' ∧ Mx (rdA ns nb m A) ns nb g τ' := by
  intro m
  induction m with
  | zero =>
    intro fuel A τ hi hf hW hM
    obtain ⟨u, rfl⟩ : ∃ u, fuel = u + 1 := ⟨fuel - 1, by omega⟩
    have e1 : τ.1 20 0 1 = nI (A 0 0 6) := hM.2.2.2.2.2.2.2.2.2.1
    refine ⟨τ, ?_, okM.rf, hM⟩
    rw [LX5_runsDown_62, downM hM hW, Option.bind_some]
    dsimp only
    rcases dn_01 A ns 0 with q | q
    · rw [q, if_pos (show nI 0 = 0 from rfl), e1, nI_add, if_pos (nI_le (by omega) (by omega)), if_pos (Nat.le_refl _)]
    · rw [q, if_neg (show ¬ nI 1 = 0 by decide), if_pos (Nat.le_refl _)]
  | succ m ih =>
    intro fuel A τ hi hf hW hM
    obtain ⟨u, rfl⟩ : ∃ u, fuel = u + 1 := ⟨fuel - 1, by omega⟩
    have e1 : τ.1 20 0 1 = nI (A 0 0 6) := hM.2.2.2.2.2.2.2.2.2.1
    rw [LX5_runsDown_62, downM hM hW, Option.bind_some, rdA]
    dsimp only
    rcases dn_01 A ns 0 with q | q
    · obtain ⟨n1, n2, n3⟩ := tick_ok (ns := ns) (nb := nb) hW (by omega)
      obtain ⟨τ1, p1, p2, p3⟩ := tickM hM hW hT (by omega)
      obtain ⟨τ', t1, t2, t3⟩ := ih u _ τ1 (by omega) (by omega) n1 p3
      rw [q, if_pos (show nI 0 = 0 from rfl), e1, nI_add, if_neg (nI_ge (by omega) (by omega)), p1, Option.bind_some, if_pos ⟨Nat.le_refl _, p2.2.1⟩, t1, Option.bind_some, if_pos t2.2.1, Option.bind_some, if_pos t2.2.1, if_pos rfl]
      exact ⟨τ', rfl, p2.tr t2, t3⟩
    · rw [q, if_neg (show ¬ nI 1 = 0 by decide), if_pos (Nat.le_refl _), if_neg (by decide)]
      exact ⟨τ, rfl, okM.rf, hM⟩
/-- the reference's copies -/
def cpS0 (σ : Sg) : Sg := sC σ 28 (va_cpy (σ.1 21 0) (σ.1 28 0) (0 : Int32).toNatClampNeg (0 : Int32).toNatClampNeg (20 : Int32).toNatClampNeg)
def cpS (σ : Sg) : Sg := sC (cpS0 σ) 29 (va_cpy ((cpS0 σ).1 22 0) ((cpS0 σ).1 29 0) (0 : Int32).toNatClampNeg (0 : Int32).toNatClampNeg (88 : Int32).toNatClampNeg)
def cpE0 (w : Int32) (σ : Sg) : Sg := sI (sI σ 20 0 13 0) 20 0 1 w
def cpE1 (w : Int32) (σ : Sg) : Sg := sC (cpE0 w σ) 21 (va_cpy ((cpE0 w σ).1 28 0) ((cpE0 w σ).1 21 0) (0 : Int32).toNatClampNeg (0 : Int32).toNatClampNeg (20 : Int32).toNatClampNeg)
def cpE (w : Int32) (σ : Sg) : Sg := sC (cpE1 w σ) 22 (va_cpy ((cpE1 w σ).1 29 0) ((cpE1 w σ).1 22 0) (0 : Int32).toNatClampNeg (0 : Int32).toNatClampNeg (88 : Int32).toNatClampNeg)
theorem rd_clean (ns nb : Nat) (σ : Sg) (a1 : Int32) : FX5_runsDown ns nb σ a1 = (((FX5_isIn ns nb (sI σ 20 0 0 0) a1 1 2000).bind fun z1 => if z1.1 = 0 then ((FX5_fail ns nb z1.2 1).bind fun z17 => some (z17.1, z17.2)) else ((LX5_runsDown_62 ns nb a1 ((cpS z1.2).1 20 0 1) 4100 (sI (cpS z1.2) 20 0 13 1)).bind fun z12 => if (kN σ ≤ kN (sI (cpS z1.2) 20 0 13 1) ∧ kN (sI (cpS z1.2) 20 0 13 1) ≤ kN z12) then ((((FX5_isDown ns nb z12).bind fun z13 => if z13.1 = 0 then (some ((-1), cpE ((cpS z1.2).1 20 0 1) z13.2)) else (some (z13.2.1 20 0 1, cpE ((cpS z1.2).1 20 0 1) z13.2))).bind fun r => if kN z12 ≤ kN r.2 then some r else none)) else none)).bind fun r => if kN σ ≤ kN r.2 then some r else none) := rfl
theorem cpS_e {σ : Sg} : (∀ k i f, k ≠ 28 → k ≠ 29 → (cpS σ).1 k i f = σ.1 k i f) ∧ (cpS σ).2 = σ.2 ∧ (∀ x, x < 20 → (cpS σ).1 28 0 x = σ.1 21 0 x) ∧ ∀ x, x < 88 → (cpS σ).1 29 0 x = σ.1 22 0 x := by
  have c0 : (0 : Int32).toNatClampNeg = 0 := by decide
  have c20 : (20 : Int32).toNatClampNeg = 20 := by decide
  have c88 : (88 : Int32).toNatClampNeg = 88 := by decide
  refine ⟨fun k i f h1 h2 => (if_neg (by omega)).trans (if_neg (by omega)), rfl, fun x hx => ?_, fun x hx => ?_⟩
  · show va_cpy (σ.1 21 0) (σ.1 28 0) _ _ _ x = _
    rw [c0, c20]
    show (if 0 ≤ x ∧ x < 0 + 20 then σ.1 21 0 (0 + (x - 0)) else σ.1 28 0 x) = _
    rw [if_pos (by omega), Nat.sub_zero, Nat.zero_add]
  · show va_cpy (σ.1 22 0) ((cpS0 σ).1 29 0) _ _ _ x = _
    rw [c0, c88]
    show (if 0 ≤ x ∧ x < 0 + 88 then σ.1 22 0 (0 + (x - 0)) else (cpS0 σ).1 29 0 x) = _
    rw [if_pos (by omega), Nat.sub_zero, Nat.zero_add]
theorem cpE_e {σ : Sg} {w : Int32} : (∀ k i f, k ≠ 21 → k ≠ 22 → ¬ (k = 20 ∧ (f = 13 ∨ f = 1)) → (cpE w σ).1 k i f = σ.1 k i f) ∧ (cpE w σ).2 = σ.2 ∧ (∀ x, x < 20 → (cpE w σ).1 21 0 x = σ.1 28 0 x) ∧ (∀ x, x < 88 → (cpE w σ).1 22 0 x = σ.1 29 0 x) ∧ (cpE w σ).1 20 0 13 = 0 ∧ (cpE w σ).1 20 0 1 = w := by
  have c0 : (0 : Int32).toNatClampNeg = 0 := by decide
  have c20 : (20 : Int32).toNatClampNeg = 20 := by decide
  have c88 : (88 : Int32).toNatClampNeg = 88 := by decide
  refine ⟨fun k i f h1 h2 h3 => (((if_neg (by omega)).trans (if_neg (by omega))).trans (if_neg (by omega))).trans (if_neg (by omega)), rfl, fun x hx => ?_, fun x hx => ?_, rfl, rfl⟩
  · show va_cpy (σ.1 28 0) ((cpE0 w σ).1 21 0) _ _ _ x = _
    rw [c0, c20]
    show (if 0 ≤ x ∧ x < 0 + 20 then σ.1 28 0 (0 + (x - 0)) else (cpE0 w σ).1 21 0 x) = _
    rw [if_pos (by omega), Nat.sub_zero, Nat.zero_add]
  · show va_cpy (σ.1 29 0) ((cpE1 w σ).1 22 0) _ _ _ x = _
    rw [c0, c88]
    show (if 0 ≤ x ∧ x < 0 + 88 then σ.1 29 0 (0 + (x - 0)) else (cpE1 w σ).1 22 0 x) = _
    rw [if_pos (by omega), Nat.sub_zero, Nat.zero_add]
theorem aheadM {A : Ab} {ns nb : Nat} {τ : Sg} (h : Mm A ns nb τ) : Mx A ns nb 1 (sI (cpS τ) 20 0 13 1) := by
  obtain ⟨e, -⟩ := cpS_e (σ := τ)
  have e' : ∀ k i f, k ≠ 28 → k ≠ 29 → ¬ (k = 20 ∧ f = 13) → (sI (cpS τ) 20 0 13 1).1 k i f = τ.1 k i f := fun k i f h1 h2 h3 => by
    rw [sI_eq, if_neg (by omega), e k i f h1 h2]
  obtain ⟨h1, h2, h3, h4, h5, h6, h7, ⟨p2, p3, p1, p13⟩⟩ := h
  refine ⟨fun i hi f hf => by rw [e' _ _ _ (by decide) (by decide) (by omega)]; exact h1 i hi f hf, fun b hb => ?_, fun b hb x hx => by rw [e' _ _ _ (by decide) (by decide) (by omega)]; exact h3 b hb x hx, fun b hb x hx => by rw [e' _ _ _ (by decide) (by decide) (by omega)]; exact h4 b hb x hx, fun k hk x hx => by rw [e' _ _ _ (by decide) (by decide) (by omega)]; exact h5 k hk x hx, fun q => absurd q (by decide), fun a ha b hb => by rw [e' _ _ _ (by decide) (by decide) (by omega)]; exact h7 a ha b hb, ⟨?_, ?_, ?_, rfl⟩⟩
  · have e22 : ∀ x, (sI (cpS τ) 20 0 13 1).1 22 0 x = τ.1 22 0 x := fun x => e' 22 0 x (by decide) (by decide) (by omega)
    simp only [e22]
    exact h2 b hb
  · rw [e' _ _ _ (by decide) (by decide) (by omega)]; exact p2
  · rw [e' _ _ _ (by decide) (by decide) (by omega)]; exact p3
  · rw [e' _ _ _ (by decide) (by decide) (by omega)]; exact p1
theorem backM {A B : Ab} {ns nb : Nat} {τ τ' : Sg} (h : Mm A ns nb τ) (h8 : nb ≤ 8) (hB : Mx B ns nb 1 τ') (ho : okM 1 (sI (cpS τ) 20 0 13 1) τ') (hk : kal A B) : Mm A ns nb (cpE (nI (A 0 0 6)) τ') := by
  obtain ⟨s1, -, s3, s4⟩ := cpS_e (σ := τ)
  obtain ⟨r1, -, r3, r4, r5, r6⟩ := cpE_e (σ := τ') (w := nI (A 0 0 6))
  obtain ⟨o1, o2, o3, o4⟩ := ho
  obtain ⟨o4, o5, o6⟩ := o4 (by decide)
  have f21 : ∀ x, x < 20 → (cpE (nI (A 0 0 6)) τ').1 21 0 x = τ.1 21 0 x := fun x hx => by
    rw [r3 x hx, o3 28 0 x (Or.inl rfl), sI_eq, if_neg (by omega), s3 x hx]
  have f22 : ∀ x, x < 88 → (cpE (nI (A 0 0 6)) τ').1 22 0 x = τ.1 22 0 x := fun x hx => by
    rw [r4 x hx, o3 29 0 x (Or.inr (Or.inl rfl)), sI_eq, if_neg (by omega), s4 x hx]
  have f : ∀ k i x, k ≠ 21 → k ≠ 22 → k ≠ 20 → (cpE (nI (A 0 0 6)) τ').1 k i x = τ'.1 k i x := fun k i x a b c => r1 k i x a b (by omega)
  obtain ⟨h1, h2, h3, h4, h5, ⟨g1, g2, g3⟩, h7, ⟨p2, p3, p1, p13⟩⟩ := h
  obtain ⟨-, -, b3, b4, b5, -, b7, ⟨q2, q3, -, -⟩⟩ := hB
  refine ⟨fun i hi f hf => by rw [f21 _ (by omega)]; exact h1 i hi f hf, fun b hb => ?_, fun b hb x hx => ?_, fun b hb x hx => ?_, fun k hk' x hx => ?_, ⟨?_, ?_, fun j hj => ?_⟩, fun a ha b hb => ?_, ⟨?_, ?_, r6, r5⟩⟩
  · rw [f22 _ (by omega), f22 _ (by omega), f22 _ (by omega), f22 _ (by omega), f22 _ (by omega), f22 _ (by omega), f22 _ (by omega), f22 _ (by omega), f22 _ (by omega), f22 _ (by omega), f22 _ (by omega)]
    exact h2 b hb
  · rw [f 24 _ _ (by decide) (by decide) (by decide), b3 b hb x hx, hk.1 7 b x (by decide) (by decide) (by decide) (by omega) (by omega)]
  · rw [f 25 _ _ (by decide) (by decide) (by decide), b4 b hb x hx, hk.1 8 b x (by decide) (by decide) (by decide) (by omega) (by omega)]
  · rw [f 26 _ _ (by decide) (by decide) (by decide), b5 k hk' x hx, hk.1 12 k x (by decide) (by decide) (by decide) (by omega) (by omega)]
  · rw [r1 20 0 11 (by decide) (by decide) (by omega), o6, sI_eq, if_neg (by omega), s1 _ _ _ (by decide) (by decide)]; exact g1
  · rw [r1 20 0 10 (by decide) (by decide) (by omega), o5, sI_eq, if_neg (by omega), s1 _ _ _ (by decide) (by decide)]; exact g2
  · rw [f 27 _ _ (by decide) (by decide) (by decide), o4, sI_eq, if_neg (by omega), s1 _ _ _ (by decide) (by decide)]; exact g3 j hj
  · rw [f 23 _ _ (by decide) (by decide) (by decide), b7 a ha b hb, hk.1 23 a b (by decide) (by decide) (by decide) (by omega) (by omega)]
  · rw [r1 20 0 2 (by decide) (by decide) (by omega)]; exact q2
  · rw [r1 20 0 3 (by decide) (by decide) (by omega)]; exact q3
theorem runsDown_ok (T ns nb : Nat) (σ : Sg) (a1 : Int32) (hT : T < 512) (h : Inv T ns nb σ) : ∃ (k bv : Int32) (σ1 σ2 : Sg), FL_runsDown ns nb σ a1 = some (k, σ1) ∧ FX5_runsDown ns nb σ1 a1 = some (bv, σ2) ∧ σ2.1 20 0 0 = k ∧ (k = 0 → σ2.2 30 0 0 = bv.toInt64) ∧ Inv (T + 1) ns nb σ2 := by
  refine bothW (F5 := fun τ => FX5_runsDown ns nb τ a1) h (fun A hC hW => ?_)
  unfold FX4_runsDown
  rcases rngN (a := a1) (x := 1) (y := 2000) (by decide) (by decide) with q | ⟨j, j1, j2, rfl⟩
  · rw [in4n (show a1 < 1 ∨ 2000 < a1 from q), Option.bind_some, if_pos rfl]
    refine ⟨_, _, A, rfl, frC.rf, hC, hW.up (by omega), fun τ hM => ref1 (x := 1) (y := 0) hM ?_ rfl (by decide)⟩
    (try dsimp only)
    have k0 : kN τ ≤ kN (sI (sI τ 20 0 0 0) 20 0 0 1) := Nat.le_trans thr_k thr_k
    rw [rd_clean, in5n (show a1 < 1 ∨ 2000 < a1 from q), Option.bind_some, if_pos rfl]
    dsimp only
    rw [fail5, Option.bind_some, Option.bind_some, if_pos k0]
  · have q := in_rng (x := 1) (y := 2000) j1 j2 (by decide)
    have ht : A 0 0 6 ≤ 500 * T := hW.2.2.1
    have h4 := hW.1
    have h8 := hW.2.1
    have hW6 : Wf A ns nb 516 := hW.up (by omega)
    obtain ⟨n1, n2⟩ := rd_ok (ns := ns) (nb := nb) j A hW6 (by omega)
    obtain ⟨σ1, p1, p2, p3, p4⟩ := rememberC hC h4 h8
    obtain ⟨σ2, t1, t2, t3⟩ := rdC (ns := ns) (nb := nb) (T := 516) (j := j) (v2 := σ.1 0 0 6) (by omega) (by omega) j 0 4100 A σ1 (by omega) (by omega) hW6 (by omega) p3
    obtain ⟨σ3, u1, u2, u3⟩ := recallC t3 (p4.ok t2) n2 h4 h8
    have c6 : σ.1 0 0 6 = nI (A 0 0 6) := hC.2.2.2.2.2.2.2.2.2
    have d6 : σ2.1 0 0 6 = nI (rdA ns nb j A 0 0 6) := t3.2.2.2.2.2.2.2.2.2
    have hfr : frC σ (sI σ3 0 0 6 (nI (A 0 0 6))) := ((p2.tr t2.1).tr u2).tr (frC_I (by decide))
    have ref : ∀ τ, Mm A ns nb τ → ∃ τ1, FX5_runsDown ns nb τ (nI j) = some ((if nI (dnA (rdA ns nb j A) ns 0) = 0 then -1 else nI (rdA ns nb j A 0 0 6)), τ1) ∧ frM τ τ1 ∧ Mm A ns nb τ1 ∧ τ1.1 20 0 0 = 0 := by
      intro τ hM
      have hM0 : Mm A ns nb (sI τ 20 0 0 0) := hM.thr 0
      have hMx := aheadM hM0
      obtain ⟨s1, s2, -, -⟩ := cpS_e (σ := sI τ 20 0 0 0)
      have ew : (cpS (sI τ 20 0 0 0)).1 20 0 1 = nI (A 0 0 6) := (s1 20 0 1 (by decide) (by decide)).trans hM0.2.2.2.2.2.2.2.2.2.1
      obtain ⟨τ', v1, v2, v3⟩ := rdM (ns := ns) (nb := nb) (T := 516) (j := j) (w := A 0 0 6) (g := 1) (by omega) (by omega) j 4100 A _ rfl (by omega) hW6 hMx
      have hMf := backM hM0 h8 v3 v2 n2
      obtain ⟨r1, r2, -⟩ := cpE_e (σ := τ') (w := nI (A 0 0 6))
      have k1 : kN τ ≤ kN (sI (cpS (sI τ 20 0 0 0)) 20 0 13 1) := by
        unfold kN
        exact Nat.le_refl _
      have k2 : kN τ' ≤ kN (cpE (nI (A 0 0 6)) τ') := by
        unfold kN
        exact Nat.le_refl _
      have hfm : frM τ (cpE (nI (A 0 0 6)) τ') := by
        intro k i f hk
        refine ⟨?_, ?_⟩
        · rw [r1 k i f (by omega) (by omega) (by omega), (v2.1 k i f hk).1, sI_eq, if_neg (by omega), s1 k i f (by omega) (by omega), sI_eq, if_neg (by omega)]
        · rw [r2, (v2.1 k i f hk).2, sI_2, s2, sI_2]
      have hth : (cpE (nI (A 0 0 6)) τ').1 20 0 0 = 0 := by
        rw [r1 20 0 0 (by decide) (by decide) (by omega), v2.2.2.1 20 0 0 (Or.inr (Or.inr ⟨rfl, rfl⟩)), sI_eq, if_neg (by omega), s1 20 0 0 (by decide) (by decide)]
        rfl
      have e1 : τ'.1 20 0 1 = nI (rdA ns nb j A 0 0 6) := v3.2.2.2.2.2.2.2.2.2.1
      refine ⟨cpE (nI (A 0 0 6)) τ', ?_, hfm, hMf, hth⟩
      rw [rd_clean, in5y (show ¬ (nI j < 1 ∨ 2000 < nI j) from q), Option.bind_some, if_neg n10]
      dsimp only
      rw [ew, v1, Option.bind_some, if_pos ⟨k1, v2.2.1⟩, downM v3 n1, Option.bind_some]
      dsimp only
      rw [e1]
      by_cases hz : nI (dnA (rdA ns nb j A) ns 0) = 0
      · rw [if_pos hz, if_pos hz, Option.bind_some, if_pos k2, Option.bind_some, if_pos (Nat.le_trans k1 (Nat.le_trans v2.2.1 k2))]
      · rw [if_neg hz, if_neg hz, Option.bind_some, if_pos k2, Option.bind_some, if_pos (Nat.le_trans k1 (Nat.le_trans v2.2.1 k2))]
    rw [in4y (show ¬ (nI j < 1 ∨ 2000 < nI j) from q), Option.bind_some, if_neg n10]
    dsimp only
    rw [p1, Option.bind_some, downC p3 hW6, Option.bind_some]
    dsimp only
    rw [show LX4_runsDown_39 ns nb (nI j) (σ.1 0 0 6) 4100 (nI (dnA A ns 0)) 0 σ1 = _ from t1, Option.bind_some]
    dsimp only
    rw [u1, Option.bind_some, c6, d6]
    by_cases hz : nI (dnA (rdA ns nb j A) ns 0) = 0
    · rw [if_pos hz]
      refine ⟨_, _, A, rfl, hfr, u3, hW.up (by omega), fun τ hM => ?_⟩
      obtain ⟨τ1, x1, x2, x3, x4⟩ := ref τ hM
      rw [if_pos hz] at x1
      exact ⟨_, τ1, x1, x2, x3, x4, rfl⟩
    · rw [if_neg hz]
      refine ⟨_, _, A, rfl, hfr, u3, hW.up (by omega), fun τ hM => ?_⟩
      obtain ⟨τ1, x1, x2, x3, x4⟩ := ref τ hM
      rw [if_neg hz] at x1
      exact ⟨_, τ1, x1, x2, x3, x4, rfl⟩
