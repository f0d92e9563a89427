abbrev wsB (g : Gx) (q : Nat) (u : Nat → Nat) (a1 a2 a3 a4 a5 : Int32) (a6 : Int64) : va_W := [(q, .inr (0, [.int a1, .int a2, .int a3, .int a4, .int a5, .ref (u 0), .ref (u 1), .ref (u 2), .int 0, .int 1, .long a6, .long 0, .int 0, .long 0, .int 0])), (u 0, .inl (g.2.1.1, 96, .inl (fun _ => 0))), (u 1, .inl (g.2.1.1, 6, .inl ntC)), (u 2, .inl (g.2.1.2.2.2.2.2, 3, .inr (.inr (.inr (.inr (va_up (va_up (va_up (fun _ => none) (0 : Int32).toNatClampNeg (some (u 3))) (1 : Int32).toNatClampNeg (some (u 6))) (2 : Int32).toNatClampNeg (some (u 9)))))))), (u 3, .inr (1, [.ref (u 4), .ref (u 5), .int 0])), (u 4, .inl (g.2.1.1, 96, .inl (fun _ => 0))), (u 5, .inl (g.2.1.1, 96, .inl (fun _ => 0))), (u 6, .inr (1, [.ref (u 7), .ref (u 8), .int 0])), (u 7, .inl (g.2.1.1, 96, .inl (fun _ => 0))), (u 8, .inl (g.2.1.1, 96, .inl (fun _ => 0))), (u 9, .inr (1, [.ref (u 10), .ref (u 11), .int 0])), (u 10, .inl (g.2.1.1, 96, .inl (fun _ => 0))), (u 11, .inl (g.2.1.1, 96, .inl (fun _ => 0)))]
def nwB (nb : Nat) (k i : Nat) : Option Nat := if k = 6 ∧ i = nb then some 0 else if k = 7 ∧ i = nb then some 1 else if k = 8 ∧ i = nb then some 2 else if k = 9 ∧ i = nb then some 3 else if 10 ≤ k ∧ k ≤ 12 ∧ 3 * nb ≤ i then some (4 + 3 * (i - 3 * nb) + (k - 10)) else none
theorem shB6 (h : Sh) (q : Nat) (u : Nat → Nat) : (shB h q u).2.2 6 h.2.1 = q := by simp [shB]
theorem shB7 (h : Sh) (q : Nat) (u : Nat → Nat) : (shB h q u).2.2 7 h.2.1 = u 0 := by simp [shB]
theorem shB8 (h : Sh) (q : Nat) (u : Nat → Nat) : (shB h q u).2.2 8 h.2.1 = u 1 := by simp [shB]
theorem shB9 (h : Sh) (q : Nat) (u : Nat → Nat) : (shB h q u).2.2 9 h.2.1 = u 2 := by simp [shB]
theorem shB10 (h : Sh) (q : Nat) (u : Nat → Nat) (c : Nat) : (shB h q u).2.2 10 (3 * h.2.1 + c) = u (3 + 3 * c) := by simp [shB]
theorem shB11 (h : Sh) (q : Nat) (u : Nat → Nat) (c : Nat) : (shB h q u).2.2 11 (3 * h.2.1 + c) = u (3 + 3 * c + 1) := by simp [shB]
theorem shB12 (h : Sh) (q : Nat) (u : Nat → Nat) (c : Nat) : (shB h q u).2.2 12 (3 * h.2.1 + c) = u (3 + 3 * c + 2) := by simp [shB]
theorem sgB_off {σ : Sg} {nb : Nat} {a1 a2 a3 a4 a5 : Int32} {a6 : Int64} {k i : Nat} (h6 : ¬ (k = 6 ∧ i = nb)) (h7 : ¬ (k = 7 ∧ i = nb)) (h8 : ¬ (k = 8 ∧ i = nb)) (h10 : ¬ (10 ≤ k ∧ k ≤ 12 ∧ 3 * nb ≤ i)) : (sgB σ nb a1 a2 a3 a4 a5 a6).1 k i = σ.1 k i ∧ (sgB σ nb a1 a2 a3 a4 a5 a6).2 k i = σ.2 k i := by
  refine ⟨funext fun f => ?_, funext fun f => ?_⟩
  · show (if _ then _ else _) = _
    rw [if_neg h6, if_neg h7, if_neg h8, if_neg h10]
  · show (if _ then _ else _) = _
    rw [if_neg h6]
theorem cmB (h : Sh) (q : Nat) (u : Nat → Nat) : cmF (shB h q u) h.2.1 = va_up (va_up (va_up (fun _ => none) (0 : Int32).toNatClampNeg (some (u 3))) (1 : Int32).toNatClampNeg (some (u 6))) (2 : Int32).toNatClampNeg (some (u 9)) := by
  funext j
  show (if j < 3 then some ((shB h q u).2.2 10 (3 * h.2.1 + j)) else none) = _
  rw [shB10]
  have e0 : (0 : Int32).toNatClampNeg = 0 := by decide
  have e1 : (1 : Int32).toNatClampNeg = 1 := by decide
  have e2 : (2 : Int32).toNatClampNeg = 2 := by decide
  rw [e0, e1, e2]
  match j with
  | 0 => rfl
  | 1 => rfl
  | 2 => rfl
  | j + 3 => simp [va_up]
theorem camcase {h : Sh} {q k i : Nat} {u : Nat → Nat} (ha : al (shB h q u) k i) (h10 : 10 ≤ k ∧ k ≤ 12 ∧ 3 * h.2.1 ≤ i) : ∃ c, c < 3 ∧ i = 3 * h.2.1 + c := by
  refine ⟨i - 3 * h.2.1, ?_, by omega⟩
  unfold al shB at ha
  simp only at ha
  omega
theorem addB {g : Gx} {h : Sh} {A : Nat → Prop} {σ : Sg} {q : Nat} {u : Nat → Nat} {a1 a2 a3 a4 a5 : Int32} {a6 : Int64} {H : Heap}
    (hX : FX g h A (fun k i => if k = 2 ∧ i = 0 then .inl (g.2.1.2.2.2.2.1, 8, .inr (.inr (.inr (.inr (va_up (bdF h) h.2.1 (some q)))))) else ct g h σ k i) (wsB g q u a1 a2 a3 a4 a5 a6) H) : FW g (shB h q u) A (sgB σ h.2.1 a1 a2 a3 a4 a5 a6) H := by
  refine hX.add (nwB h.2.1) ?_ ?_ ?_
  · intro k i ha hn
    have h6 : ¬ (k = 6 ∧ i = h.2.1) := fun z => by unfold nwB at hn; rw [if_pos z] at hn; cases hn
    have h7 : ¬ (k = 7 ∧ i = h.2.1) := fun z => by unfold nwB at hn; rw [if_neg h6, if_pos z] at hn; cases hn
    have h8 : ¬ (k = 8 ∧ i = h.2.1) := fun z => by unfold nwB at hn; rw [if_neg h6, if_neg h7, if_pos z] at hn; cases hn
    have h9 : ¬ (k = 9 ∧ i = h.2.1) := fun z => by unfold nwB at hn; rw [if_neg h6, if_neg h7, if_neg h8, if_pos z] at hn; cases hn
    have h10 : ¬ (10 ≤ k ∧ k ≤ 12 ∧ 3 * h.2.1 ≤ i) := fun z => by unfold nwB at hn; rw [if_neg h6, if_neg h7, if_neg h8, if_neg h9, if_pos z] at hn; cases hn
    have h1 : al h k i := al_B ha h6 h7 h8 h9 h10
    have had : ∀ k' i', ¬ (k' = 6 ∧ i' = h.2.1) → ¬ (k' = 7 ∧ i' = h.2.1) → ¬ (k' = 8 ∧ i' = h.2.1) → ¬ (k' = 9 ∧ i' = h.2.1) → ¬ (10 ≤ k' ∧ k' ≤ 12 ∧ 3 * h.2.1 ≤ i') → (shB h q u).2.2 k' i' = h.2.2 k' i' := by
      intro k' i' q6 q7 q8 q9 q10
      show (if _ then _ else _) = _
      rw [if_neg q6, if_neg q7, if_neg q8, if_neg q9, if_neg q10]
    refine ⟨h1, had k i h6 h7 h8 h9 h10, ?_⟩
    by_cases hk : k = 2 ∧ i = 0
    · rw [if_pos hk]
      obtain ⟨rfl, rfl⟩ := hk
      rw [ct2]
      congr 7
      funext j
      unfold bdF iO va_up
      show (if j < h.2.1 + 1 then some j else none).map _ = _
      by_cases hj : j = h.2.1
      · subst hj
        rw [if_pos (Nat.lt_succ_self _), if_pos rfl]
        show some _ = some q
        rw [shB6]
      · rw [if_neg hj]
        show Option.map _ _ = Option.map (h.2.2 6) (if j < h.2.1 then some j else none)
        by_cases hj2 : j < h.2.1
        · rw [if_pos hj2, if_pos (show j < h.2.1 + 1 by omega)]
          show some _ = some _
          rw [had 6 j (by omega) (by omega) (by omega) (by omega) (by omega)]
        · rw [if_neg hj2, if_neg (show ¬ j < h.2.1 + 1 by omega)]
          rfl
    · rw [if_neg hk]
      obtain ⟨e1, e2⟩ := sgB_off (σ := σ) (a1 := a1) (a2 := a2) (a3 := a3) (a4 := a4) (a5 := a5) (a6 := a6) h6 h7 h8 h10
      refine ct_sh h1 e1 e2 (fun z => ?_) (fun z => ?_) (fun z => ?_) (fun k' z => had k' 0 (by omega) (by omega) (by omega) (by omega) (by omega)) (fun k' z1 z2 z3 => had k' i (by omega) (by omega) (by omega) (by omega) (by omega)) (fun k' z1 z2 z3 => had k' i (by omega) (by omega) (by omega) (by omega) (by omega))
      · funext j
        unfold spF
        show Option.map _ (iO h.1 j) = _
        exact congrArg (fun F => Option.map F (iO h.1 j)) (funext fun j' => had 5 j' (by omega) (by omega) (by omega) (by omega) (by omega))
      · subst z
        exfalso
        apply hk
        refine ⟨rfl, ?_⟩
        rcases h1 with q | q | q | q <;> omega
      · subst z
        funext j
        unfold cmF
        by_cases hj : j < 3
        · rw [if_pos hj, if_pos hj, had 10 (3 * i + j) (by omega) (by omega) (by omega) (by omega) (by rcases h1 with q | q | q | q <;> omega)]
        · rw [if_neg hj, if_neg hj]
  · intro k i j ha hj
    unfold nwB at hj
    by_cases h6 : k = 6 ∧ i = h.2.1
    · rw [if_pos h6] at hj
      obtain ⟨rfl, rfl⟩ := h6
      cases hj
      rw [ct6, shB6, shB7, shB8, shB9]
      simp [sgB]
    rw [if_neg h6] at hj
    by_cases h7 : k = 7 ∧ i = h.2.1
    · rw [if_pos h7] at hj
      obtain ⟨rfl, rfl⟩ := h7
      cases hj
      rw [shB7, show ct g (shB h q u) (sgB σ h.2.1 a1 a2 a3 a4 a5 a6) 7 h.2.1 = .inl (g.2.1.1, 96, .inl ((sgB σ h.2.1 a1 a2 a3 a4 a5 a6).1 7 h.2.1)) from rfl, show (sgB σ h.2.1 a1 a2 a3 a4 a5 a6).1 7 h.2.1 = fun _ => 0 by funext f; simp [sgB]]
      rfl
    rw [if_neg h7] at hj
    by_cases h8 : k = 8 ∧ i = h.2.1
    · rw [if_pos h8] at hj
      obtain ⟨rfl, rfl⟩ := h8
      cases hj
      rw [shB8, show ct g (shB h q u) (sgB σ h.2.1 a1 a2 a3 a4 a5 a6) 8 h.2.1 = .inl (g.2.1.1, 6, .inl ((sgB σ h.2.1 a1 a2 a3 a4 a5 a6).1 8 h.2.1)) from rfl, show (sgB σ h.2.1 a1 a2 a3 a4 a5 a6).1 8 h.2.1 = ntC by funext f; simp [sgB]]
      rfl
    rw [if_neg h8] at hj
    by_cases h9 : k = 9 ∧ i = h.2.1
    · rw [if_pos h9] at hj
      obtain ⟨rfl, rfl⟩ := h9
      cases hj
      rw [shB9, ct9, cmB]
      rfl
    rw [if_neg h9] at hj
    by_cases h10 : 10 ≤ k ∧ k ≤ 12 ∧ 3 * h.2.1 ≤ i
    · rw [if_pos h10] at hj
      obtain ⟨c, hc, rfl⟩ := camcase ha h10
      have hz : ∀ k', 10 ≤ k' → k' ≤ 12 → (sgB σ h.2.1 a1 a2 a3 a4 a5 a6).1 k' (3 * h.2.1 + c) = fun _ => 0 := by
        intro k' z1 z2
        funext f
        show (if _ then _ else _) = _
        rw [if_neg (by omega), if_neg (by omega), if_neg (by omega), if_pos (by omega)]
      rw [Nat.add_sub_cancel_left] at hj
      have hk : k = 10 ∨ k = 11 ∨ k = 12 := by omega
      rcases hk with rfl | rfl | rfl
      · rw [ct10, shB10, shB11, shB12, hz 10 (by decide) (by decide)]
        cases hj
        match c, hc with
        | 0, _ => rfl
        | 1, _ => rfl
        | 2, _ => rfl
      · rw [shB11, show ct g (shB h q u) (sgB σ h.2.1 a1 a2 a3 a4 a5 a6) 11 (3 * h.2.1 + c) = .inl (g.2.1.1, 96, .inl ((sgB σ h.2.1 a1 a2 a3 a4 a5 a6).1 11 (3 * h.2.1 + c))) from rfl, hz 11 (by decide) (by decide)]
        cases hj
        match c, hc with
        | 0, _ => rfl
        | 1, _ => rfl
        | 2, _ => rfl
      · rw [shB12, show ct g (shB h q u) (sgB σ h.2.1 a1 a2 a3 a4 a5 a6) 12 (3 * h.2.1 + c) = .inl (g.2.1.1, 96, .inl ((sgB σ h.2.1 a1 a2 a3 a4 a5 a6).1 12 (3 * h.2.1 + c))) from rfl, hz 12 (by decide) (by decide)]
        cases hj
        match c, hc with
        | 0, _ => rfl
        | 1, _ => rfl
        | 2, _ => rfl
    · rw [if_neg h10] at hj; cases hj
  · intro k i k' i' j h1 h2 ha ha'
    unfold nwB at h1 h2
    have hc : ¬ (10 ≤ k ∧ k ≤ 12 ∧ 3 * h.2.1 ≤ i) ∨ (i < 3 * h.2.1 + 3) := by
      by_cases z : 10 ≤ k ∧ k ≤ 12 ∧ 3 * h.2.1 ≤ i
      · obtain ⟨c, hc, rfl⟩ := camcase ha z; right; omega
      · exact Or.inl z
    have hc' : ¬ (10 ≤ k' ∧ k' ≤ 12 ∧ 3 * h.2.1 ≤ i') ∨ (i' < 3 * h.2.1 + 3) := by
      by_cases z : 10 ≤ k' ∧ k' ≤ 12 ∧ 3 * h.2.1 ≤ i'
      · obtain ⟨c, hc, rfl⟩ := camcase ha' z; right; omega
      · exact Or.inl z
    repeat' (split at h1)
    all_goals (try contradiction)
    all_goals (repeat' (split at h2))
    all_goals (try contradiction)
    all_goals (have g1 := Option.some.inj h1; have g2 := Option.some.inj h2; omega)
