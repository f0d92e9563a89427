/-! addSpring and addBird: a new shape -/
theorem ct_sh {g : Gx} {h h' : Sh} {σ σ' : Sg} {k i : Nat} (ha : al h k i) (e1 : σ'.1 k i = σ.1 k i) (e2 : σ'.2 k i = σ.2 k i) (s1 : k = 1 → spF h' = spF h) (s2 : k = 2 → bdF h' = bdF h) (s9 : k = 9 → cmF h' i = cmF h i) (s0 : ∀ k', k' ≤ 4 → h'.2.2 k' 0 = h.2.2 k' 0) (s7 : ∀ k', 7 ≤ k' → k' ≤ 9 → i < h.2.1 → h'.2.2 k' i = h.2.2 k' i) (s11 : ∀ k', 11 ≤ k' → k' ≤ 12 → i < 3 * h.2.1 → h'.2.2 k' i = h.2.2 k' i) : ct g h' σ' k i = ct g h σ k i := by
  unfold ct cF
  rw [e1, e2]
  by_cases c0 : aln k ≠ 0
  · rw [if_pos c0, if_pos c0]
  rw [if_neg c0, if_neg c0]
  by_cases c1 : k = 0
  · rw [if_pos c1, if_pos c1, s0 1 (by decide), s0 2 (by decide), s0 3 (by decide)]
  rw [if_neg c1, if_neg c1]
  by_cases c2 : k = 1
  · rw [if_pos c2, if_pos c2, s1 c2]
  rw [if_neg c2, if_neg c2]
  by_cases c3 : k = 2
  · rw [if_pos c3, if_pos c3, s2 c3]
  rw [if_neg c3, if_neg c3]
  by_cases c4 : k = 3
  · rw [if_pos c4, if_pos c4, s0 4 (by decide)]
  rw [if_neg c4, if_neg c4]
  by_cases c5 : k = 5
  · rw [if_pos c5, if_pos c5]
  rw [if_neg c5, if_neg c5]
  by_cases c6 : k = 6
  · have hi : i < h.2.1 := by
      subst c6
      rcases ha with q | q | q | q <;> omega
    rw [if_pos c6, if_pos c6, s7 7 (by decide) (by decide) hi, s7 8 (by decide) (by decide) hi, s7 9 (by decide) (by decide) hi]
  rw [if_neg c6, if_neg c6]
  by_cases c7 : k = 9
  · rw [if_pos c7, if_pos c7, s9 c7]
  rw [if_neg c7, if_neg c7]
  have c8 : k = 10 ∨ k = 4 ∨ k = 7 ∨ k = 8 ∨ k = 11 ∨ k = 12 := by
    rcases ha with q | q | q | q <;> omega
  rcases c8 with c8 | c8 | c8 | c8 | c8 | c8
  · have hi : i < 3 * h.2.1 := by
      subst c8
      rcases ha with q | q | q | q <;> omega
    rw [s11 11 (by decide) (by decide) hi, s11 12 (by decide) (by decide) hi]
  all_goals exact absurd (by rw [c8]; decide) c0
/-- one spring more -/
def shS (h : Sh) (q : Nat) : Sh := (h.1 + 1, h.2.1, fun k i => if k = 5 ∧ i = h.1 then q else h.2.2 k i)
def sgS (σ : Sg) (ns : Nat) (x : Int32) : Sg := (fun k i f => if k = 5 ∧ i = ns then (if f = 0 then x else 0) else σ.1 k i f, fun k i f => if k = 5 ∧ i = ns then 0 else σ.2 k i f)
/-- one bird more -/
def shB (h : Sh) (q : Nat) (u : Nat → Nat) : Sh := (h.1, h.2.1 + 1, fun k i => if k = 6 ∧ i = h.2.1 then q else if k = 7 ∧ i = h.2.1 then u 0 else if k = 8 ∧ i = h.2.1 then u 1 else if k = 9 ∧ i = h.2.1 then u 2 else if 10 ≤ k ∧ k ≤ 12 ∧ 3 * h.2.1 ≤ i then u (3 + 3 * (i - 3 * h.2.1) + (k - 10)) else h.2.2 k i)
def ntC : Nat → Int32 := upd (upd (upd (upd (upd (upd (fun _ => 0) (0 : Int32).toNatClampNeg (60 + (2 * 0))) (1 : Int32).toNatClampNeg (60 + (2 * 1))) (2 : Int32).toNatClampNeg (60 + (2 * 2))) (3 : Int32).toNatClampNeg (60 + (2 * 3))) (4 : Int32).toNatClampNeg (60 + (2 * 4))) (5 : Int32).toNatClampNeg (60 + (2 * 5))
def sgB (σ : Sg) (nb : Nat) (a1 a2 a3 a4 a5 : Int32) (a6 : Int64) : Sg :=
  (fun k i f => if k = 6 ∧ i = nb then (if f = 0 then a1 else if f = 1 then a2 else if f = 2 then a3 else if f = 3 then a4 else if f = 4 then a5 else if f = 9 then 1 else 0) else if k = 7 ∧ i = nb then 0 else if k = 8 ∧ i = nb then ntC f else if 10 ≤ k ∧ k ≤ 12 ∧ 3 * nb ≤ i then 0 else σ.1 k i f,
   fun k i f => if k = 6 ∧ i = nb then (if f = 10 then a6 else 0) else σ.2 k i f)
theorem al_S {h : Sh} {q k i : Nat} (ha : al (shS h q) k i) (hn : ¬ (k = 5 ∧ i = h.1)) : al h k i := by
  unfold al shS at *
  simp only at ha
  omega
theorem al_B {h : Sh} {q k i : Nat} {u : Nat → Nat} (ha : al (shB h q u) k i) (h6 : ¬ (k = 6 ∧ i = h.2.1)) (h7 : ¬ (k = 7 ∧ i = h.2.1)) (h8 : ¬ (k = 8 ∧ i = h.2.1)) (h9 : ¬ (k = 9 ∧ i = h.2.1)) (h10 : ¬ (10 ≤ k ∧ k ≤ 12 ∧ 3 * h.2.1 ≤ i)) : al h k i := by
  unfold al shB at *
  simp only at ha
  omega
theorem addS {g : Gx} {h : Sh} {A : Nat → Prop} {σ : Sg} {q : Nat} {x : Int32} {H : Heap}
    (hX : FX g h A (fun k i => if k = 1 ∧ i = 0 then .inl (g.2.1.2.2.2.1, 4, .inr (.inr (.inr (.inr (va_up (spF h) h.1 (some q)))))) else ct g h σ k i) [(q, .inr (3, [.int x, .int 0, .long 0, .int 0, .int 0, .int 0, .long 0, .int 0]))] H) : FW g (shS h q) A (sgS σ h.1 x) H := by
  refine hX.add (fun k i => if k = 5 ∧ i = h.1 then some 0 else none) ?_ ?_ ?_
  · intro k i ha hn
    have hne : ¬ (k = 5 ∧ i = h.1) := fun z => by rw [if_pos z] at hn; cases hn
    have h1 : al h k i := al_S ha hne
    refine ⟨h1, if_neg hne, ?_⟩
    by_cases hk : k = 1 ∧ i = 0
    · rw [if_pos hk]
      obtain ⟨rfl, rfl⟩ := hk
      rw [ct1]
      congr 7
      funext j
      unfold spF iO shS va_up
      simp only
      by_cases hj : j = h.1
      · subst hj; simp
      · by_cases hj2 : j < h.1
        · simp [hj, hj2, show j < h.1 + 1 by omega]
        · simp [hj, hj2, show ¬ j < h.1 + 1 by omega]
    · rw [if_neg hk]
      refine ct_sh h1 ?_ ?_ (fun z => ?_) (fun _ => rfl) (fun _ => rfl) (fun k' z => if_neg (by omega)) (fun k' z _ _ => if_neg (by omega)) (fun k' z _ _ => if_neg (by omega))
      · funext f; exact if_neg hne
      · funext f; exact if_neg hne
      · subst z
        exfalso
        apply hk
        refine ⟨rfl, ?_⟩
        rcases h1 with q | q | q | q <;> omega
  · intro k i j ha hj
    by_cases hk : k = 5 ∧ i = h.1
    · rw [if_pos hk] at hj
      obtain ⟨rfl, rfl⟩ := hk
      cases hj
      simp [shS, ct5, sgS]
    · rw [if_neg hk] at hj; cases hj
  · intro k i k' i' j h1 h2 _ _
    by_cases hk : k = 5 ∧ i = h.1
    · by_cases hk' : k' = 5 ∧ i' = h.1
      · exact ⟨hk.1.trans hk'.1.symm, hk.2.trans hk'.2.symm⟩
      · rw [if_neg hk'] at h2; cases h2
    · rw [if_neg hk] at h1; cases h1
