/-! LOOKING AHEAD, IN THE COMPONENT -/
def dnA (A : Ab) : Nat → Nat → Nat
  | 0, _ => 1
  | m + 1, i => if A 5 i 4 = 0 ∧ A 5 i 1 ≠ 0 then 0 else dnA A m (i + 1)
theorem dn_01 (A : Ab) : ∀ m i, dnA A m i = 0 ∨ dnA A m i = 1 := by
  intro m
  induction m with
  | zero => intro i; exact Or.inr rfl
  | succ m ih =>
    intro i
    rw [dnA]
    split
    · exact Or.inl rfl
    · exact ih (i + 1)
def rdA (ns nb : Nat) : Nat → Ab → Ab
  | 0, A => A
  | m + 1, A => if dnA A ns 0 = 0 then rdA ns nb m (tickA ns nb A) else A
theorem rd_ok {ns nb T : Nat} : ∀ (m : Nat) (A : Ab), Wf A ns nb T → A 0 0 6 + m ≤ 500 * T → Wf (rdA ns nb m A) ns nb T ∧ kal A (rdA ns nb m A) := by
  intro m
  induction m with
  | zero => intro A h _; exact ⟨h, kal.rf⟩
  | succ m ih =>
    intro A h ht
    rw [rdA]
    by_cases q : dnA A ns 0 = 0
    · rw [if_pos q]
      obtain ⟨n1, n2, n3⟩ := tick_ok (ns := ns) (nb := nb) h (by omega)
      obtain ⟨i1, i2⟩ := ih _ n1 (by omega)
      exact ⟨i1, n2.tr i2⟩
    · rw [if_neg q]
      exact ⟨h, kal.rf⟩
theorem dnC {A : Ab} {ns nb T : Nat} {σ : Sg} (hC : Cm A ns nb σ) (hW : Wf A ns nb T) : ∀ (m i fuel : Nat), i + m = 4 → m < fuel → LX4_areAllDown_10 ns nb fuel (nI i) σ = some (nI (dnA A (ns - i) i), σ) := by
  have h4 := hW.1
  intro m
  induction m with
  | zero =>
    intro i fuel hi hf
    obtain ⟨u, rfl⟩ : ∃ u, fuel = u + 1 := ⟨fuel - 1, by omega⟩
    have : i = 4 := by omega
    subst this
    rw [LX4_areAllDown_10, if_pos (show (4 : Int32) ≤ nI 4 by decide), show ns - 4 = 0 by omega, dnA]
    rfl
  | succ m ih =>
    intro i fuel hi hf
    obtain ⟨u, rfl⟩ : ∃ u, fuel = u + 1 := ⟨fuel - 1, by omega⟩
    have i' := ih (i + 1) u (by omega) (by omega)
    rw [LX4_areAllDown_10, if_neg (show ¬ ((4 : Int32) ≤ nI i) from nI_ge (b := 4) (by omega) (by omega)), if_neg (nI_in (by omega) (by omega)), nI_clamp (by omega), r1]
    by_cases hn : i < ns
    · obtain ⟨c0, c1, c2, c3, c4⟩ := hC.1 i hn
      obtain ⟨-, -, b3, -, b5⟩ := hW.2.2.2.1.1 i hn
      rw [iO_in hn, oc_s, if_pos hn, c4, c1, show ns - i = (ns - (i + 1)) + 1 by omega, dnA]
      by_cases h0 : A 5 i 4 = 0
      · rw [h0, if_pos (show nI 0 = 0 from rfl)]
        by_cases h1 : A 5 i 1 = 0
        · rw [h1, if_pos (show nI 0 ≤ 0 by decide), if_neg (fun q => q.2 rfl)]
          exact i'
        · rw [if_neg (nI_nle (by omega) (by omega)), if_pos ⟨rfl, h1⟩]
          rfl
      · rw [if_neg (nI_ne0 (by omega) (by omega)), if_neg (fun q => h0 q.1)]
        exact i'
    · rw [iO_out hn, oc_n, i', show ns - (i + 1) = 0 by omega, show ns - i = 0 by omega]
      rfl
theorem downC {A : Ab} {ns nb T : Nat} {σ : Sg} (hC : Cm A ns nb σ) (hW : Wf A ns nb T) : FX4_areAllDown ns nb σ = some (nI (dnA A ns 0), σ) := by
  unfold FX4_areAllDown
  exact dnC hC hW 4 0 4100 (by omega) (by omega)
theorem rdC {ns nb T j : Nat} {v2 : Int32} (hT : T ≤ 516) (hj : j < 100000) : ∀ (m i fuel : Nat) (A : Ab) (σ : Sg), i + m = j → m < fuel → Wf A ns nb T → A 0 0 6 + m ≤ 500 * T → Cm A ns nb σ → ∃ σ' : Sg, LX4_runsDown_39 ns nb (nI j) v2 fuel (nI (dnA A ns 0)) (nI i) σ = some (nI (dnA (rdA ns nb m A) ns 0), σ') ∧ okC σ σ' ∧ Cm (rdA ns nb m A) ns nb σ' := by
  intro m
  induction m with
  | zero =>
    intro i fuel A σ hi hf hW ht hC
    obtain ⟨u, rfl⟩ : ∃ u, fuel = u + 1 := ⟨fuel - 1, by omega⟩
    refine ⟨σ, ?_, okC.rf, hC⟩
    rw [LX4_runsDown_39, if_pos (nI_le (by omega) (by omega)), rdA]
  | succ m ih =>
    intro i fuel A σ hi hf hW ht hC
    obtain ⟨u, rfl⟩ : ∃ u, fuel = u + 1 := ⟨fuel - 1, by omega⟩
    rw [LX4_runsDown_39, if_neg (nI_ge (by omega) (by omega)), rdA]
    rcases dn_01 A ns 0 with q | q
    · obtain ⟨n1, n2, n3⟩ := tick_ok (ns := ns) (nb := nb) hW (by omega)
      obtain ⟨σ1, p1, p2, p3⟩ := tickC hC hW hT (by omega)
      obtain ⟨σ', t1, t2, t3⟩ := ih (i + 1) u _ σ1 (by omega) (by omega) n1 (by omega) p3
      rw [q, if_pos (show nI 0 = 0 from rfl), p1, Option.bind_some, if_pos rfl]
      dsimp only
      rw [downC p3 n1, Option.bind_some, nI_1]
      dsimp only
      rw [t1]
      exact ⟨σ', rfl, p2.tr t2, t3⟩
    · rw [q, if_neg (show ¬ nI 1 = 0 by decide), if_neg (by decide), q]
      exact ⟨σ, rfl, okC.rf, hC⟩
/-- remembering and recalling, one by one -/
theorem rem3 (ns nb : Nat) (σ : Sg) (i : Nat) : ∃ σ1 : Sg, FX3_remember ns nb σ i = some σ1 ∧ (σ1.1 5 i 5 = σ.1 5 i 1 ∧ σ1.2 5 i 6 = σ.2 5 i 2 ∧ σ1.1 5 i 7 = σ.1 5 i 3) ∧ (∀ k j f, ¬ (k = 5 ∧ j = i ∧ (f = 5 ∨ f = 7)) → σ1.1 k j f = σ.1 k j f) ∧ ∀ k j f, ¬ (k = 5 ∧ j = i ∧ f = 6) → σ1.2 k j f = σ.2 k j f := by
  refine ⟨_, rfl, ⟨by simp [sI_eq, sL_1], by simp [sL_eq, sI_2], by simp [sI_eq, sL_1]⟩, fun k j f h => ?_, fun k j f h => ?_⟩
  · rw [sI_eq, if_neg (by omega), sL_1, sI_eq, if_neg (by omega)]
  · rw [sI_2, sL_eq, if_neg (by omega), sI_2]
theorem rec3 (ns nb : Nat) (σ : Sg) (i : Nat) : ∃ σ1 : Sg, FX3_recall ns nb σ i = some σ1 ∧ (σ1.1 5 i 1 = σ.1 5 i 5 ∧ σ1.2 5 i 2 = σ.2 5 i 6 ∧ σ1.1 5 i 3 = σ.1 5 i 7) ∧ (∀ k j f, ¬ (k = 5 ∧ j = i ∧ (f = 1 ∨ f = 3)) → σ1.1 k j f = σ.1 k j f) ∧ ∀ k j f, ¬ (k = 5 ∧ j = i ∧ f = 2) → σ1.2 k j f = σ.2 k j f := by
  refine ⟨_, rfl, ⟨by simp [sI_eq, sL_1], by simp [sL_eq, sI_2], by simp [sI_eq, sL_1]⟩, fun k j f h => ?_, fun k j f h => ?_⟩
  · rw [sI_eq, if_neg (by omega), sL_1, sI_eq, if_neg (by omega)]
  · rw [sI_2, sL_eq, if_neg (by omega), sI_2]
theorem rem0 (ns nb : Nat) (σ : Sg) (i : Nat) : ∃ σ1 : Sg, FX0_remember ns nb σ i = some σ1 ∧ (σ1.2 6 i 13 = σ.2 6 i 11 ∧ σ1.1 6 i 14 = σ.1 6 i 12) ∧ (∀ k j f, ¬ (k = 6 ∧ j = i ∧ f = 14) → σ1.1 k j f = σ.1 k j f) ∧ ∀ k j f, ¬ (k = 6 ∧ j = i ∧ f = 13) → σ1.2 k j f = σ.2 k j f := by
  refine ⟨_, rfl, ⟨by simp [sL_eq, sI_2], by simp [sI_eq, sL_1]⟩, fun k j f h => ?_, fun k j f h => ?_⟩
  · rw [sI_eq, if_neg (by omega), sL_1]
  · rw [sI_2, sL_eq, if_neg (by omega)]
theorem rec0 (ns nb : Nat) (σ : Sg) (i : Nat) : ∃ σ1 : Sg, FX0_recall ns nb σ i = some σ1 ∧ (σ1.2 6 i 11 = σ.2 6 i 13 ∧ σ1.1 6 i 12 = σ.1 6 i 14) ∧ (∀ k j f, ¬ (k = 6 ∧ j = i ∧ f = 12) → σ1.1 k j f = σ.1 k j f) ∧ ∀ k j f, ¬ (k = 6 ∧ j = i ∧ f = 11) → σ1.2 k j f = σ.2 k j f := by
  refine ⟨_, rfl, ⟨by simp [sL_eq, sI_2], by simp [sI_eq, sL_1]⟩, fun k j f h => ?_, fun k j f h => ?_⟩
  · rw [sI_eq, if_neg (by omega), sL_1]
  · rw [sI_2, sL_eq, if_neg (by omega)]
theorem remS {ns nb : Nat} (h4 : ns ≤ 4) : ∀ (m i fuel : Nat) (σ : Sg), i + m = 4 → m < fuel → ∃ σ' : Sg, LX4_rememberAll_10 ns nb fuel (nI i) σ = some σ' ∧ (∀ j, i ≤ j → j < ns → σ'.1 5 j 5 = σ.1 5 j 1 ∧ σ'.2 5 j 6 = σ.2 5 j 2 ∧ σ'.1 5 j 7 = σ.1 5 j 3) ∧ (∀ k j f, ¬ (k = 5 ∧ i ≤ j ∧ (f = 5 ∨ f = 7)) → σ'.1 k j f = σ.1 k j f) ∧ ∀ k j f, ¬ (k = 5 ∧ i ≤ j ∧ f = 6) → σ'.2 k j f = σ.2 k j f := by
  intro m
  induction m with
  | zero =>
    intro i fuel σ hi hf
    obtain ⟨u, rfl⟩ : ∃ u, fuel = u + 1 := ⟨fuel - 1, by omega⟩
    have : i = 4 := by omega
    subst this
    exact ⟨σ, by rw [LX4_rememberAll_10, if_pos (show (4 : Int32) ≤ nI 4 by decide)], fun j h1 h2 => by omega, fun _ _ _ _ => rfl, fun _ _ _ _ => rfl⟩
  | succ m ih =>
    intro i fuel σ hi hf
    obtain ⟨u, rfl⟩ : ∃ u, fuel = u + 1 := ⟨fuel - 1, by omega⟩
    rw [LX4_rememberAll_10, if_neg (show ¬ ((4 : Int32) ≤ nI i) from nI_ge (b := 4) (by omega) (by omega)), if_neg (nI_in (by omega) (by omega)), nI_clamp (by omega), r1]
    by_cases hn : i < ns
    · obtain ⟨σ1, q1, q2, q3, q4⟩ := rem3 ns nb σ i
      obtain ⟨σ', t1, t2, t3, t4⟩ := ih (i + 1) u σ1 (by omega) (by omega)
      rw [iO_in hn, oc_s, if_pos hn, q1, Option.bind_some, t1]
      refine ⟨σ', rfl, fun j h1 h2 => ?_, fun k j f h => (t3 k j f (by omega)).trans (q3 k j f (by omega)), fun k j f h => (t4 k j f (by omega)).trans (q4 k j f (by omega))⟩
      by_cases hji : j = i
      · subst hji
        exact ⟨(t3 5 j 5 (by omega)).trans q2.1, (t4 5 j 6 (by omega)).trans q2.2.1, (t3 5 j 7 (by omega)).trans q2.2.2⟩
      · have h := t2 j (by omega) h2
        exact ⟨h.1.trans (q3 5 j 1 (by omega)), h.2.1.trans (q4 5 j 2 (by omega)), h.2.2.trans (q3 5 j 3 (by omega))⟩
    · obtain ⟨σ', t1, t2, t3, t4⟩ := ih (i + 1) u σ (by omega) (by omega)
      rw [iO_out hn, oc_n, t1]
      exact ⟨σ', rfl, fun j h1 h2 => by omega, fun k j f h => t3 k j f (by omega), fun k j f h => t4 k j f (by omega)⟩
theorem remB {ns nb : Nat} (h4 : nb ≤ 8) : ∀ (m i fuel : Nat) (σ : Sg), i + m = 8 → m < fuel → ∃ σ' : Sg, LX4_rememberAll_46 ns nb fuel (nI i) σ = some σ' ∧ (∀ j, i ≤ j → j < nb → σ'.2 6 j 13 = σ.2 6 j 11 ∧ σ'.1 6 j 14 = σ.1 6 j 12) ∧ (∀ k j f, ¬ (k = 6 ∧ i ≤ j ∧ f = 14) → σ'.1 k j f = σ.1 k j f) ∧ ∀ k j f, ¬ (k = 6 ∧ i ≤ j ∧ f = 13) → σ'.2 k j f = σ.2 k j f := by
  intro m
  induction m with
  | zero =>
    intro i fuel σ hi hf
    obtain ⟨u, rfl⟩ : ∃ u, fuel = u + 1 := ⟨fuel - 1, by omega⟩
    have : i = 8 := by omega
    subst this
    exact ⟨σ, by rw [LX4_rememberAll_46, if_pos (show (8 : Int32) ≤ nI 8 by decide)], fun j h1 h2 => by omega, fun _ _ _ _ => rfl, fun _ _ _ _ => rfl⟩
  | succ m ih =>
    intro i fuel σ hi hf
    obtain ⟨u, rfl⟩ : ∃ u, fuel = u + 1 := ⟨fuel - 1, by omega⟩
    rw [LX4_rememberAll_46, if_neg (show ¬ ((8 : Int32) ≤ nI i) from nI_ge (b := 8) (by omega) (by omega)), if_neg (nI_in (by omega) (by omega)), nI_clamp (by omega), r1]
    by_cases hn : i < nb
    · obtain ⟨σ1, q1, q2, q3, q4⟩ := rem0 ns nb σ i
      obtain ⟨σ', t1, t2, t3, t4⟩ := ih (i + 1) u σ1 (by omega) (by omega)
      rw [iO_in hn, oc_s, if_pos hn, q1, Option.bind_some, t1]
      refine ⟨σ', rfl, fun j h1 h2 => ?_, fun k j f h => (t3 k j f (by omega)).trans (q3 k j f (by omega)), fun k j f h => (t4 k j f (by omega)).trans (q4 k j f (by omega))⟩
      by_cases hji : j = i
      · subst hji
        exact ⟨(t4 6 j 13 (by omega)).trans q2.1, (t3 6 j 14 (by omega)).trans q2.2⟩
      · have h := t2 j (by omega) h2
        exact ⟨h.1.trans (q4 6 j 11 (by omega)), h.2.trans (q3 6 j 12 (by omega))⟩
    · obtain ⟨σ', t1, t2, t3, t4⟩ := ih (i + 1) u σ (by omega) (by omega)
      rw [iO_out hn, oc_n, t1]
      exact ⟨σ', rfl, fun j h1 h2 => by omega, fun k j f h => t3 k j f (by omega), fun k j f h => t4 k j f (by omega)⟩
theorem recS {ns nb : Nat} (h4 : ns ≤ 4) : ∀ (m i fuel : Nat) (σ : Sg), i + m = 4 → m < fuel → ∃ σ' : Sg, LX4_recallAll_10 ns nb fuel (nI i) σ = some σ' ∧ (∀ j, i ≤ j → j < ns → σ'.1 5 j 1 = σ.1 5 j 5 ∧ σ'.2 5 j 2 = σ.2 5 j 6 ∧ σ'.1 5 j 3 = σ.1 5 j 7) ∧ (∀ k j f, ¬ (k = 5 ∧ i ≤ j ∧ (f = 1 ∨ f = 3)) → σ'.1 k j f = σ.1 k j f) ∧ ∀ k j f, ¬ (k = 5 ∧ i ≤ j ∧ f = 2) → σ'.2 k j f = σ.2 k j f := by
  intro m
  induction m with
  | zero =>
    intro i fuel σ hi hf
    obtain ⟨u, rfl⟩ : ∃ u, fuel = u + 1 := ⟨fuel - 1, by omega⟩
    have : i = 4 := by omega
    subst this
    exact ⟨σ, by rw [LX4_recallAll_10, if_pos (show (4 : Int32) ≤ nI 4 by decide)], fun j h1 h2 => by omega, fun _ _ _ _ => rfl, fun _ _ _ _ => rfl⟩
  | succ m ih =>
    intro i fuel σ hi hf
    obtain ⟨u, rfl⟩ : ∃ u, fuel = u + 1 := ⟨fuel - 1, by omega⟩
    rw [LX4_recallAll_10, if_neg (show ¬ ((4 : Int32) ≤ nI i) from nI_ge (b := 4) (by omega) (by omega)), if_neg (nI_in (by omega) (by omega)), nI_clamp (by omega), r1]
    by_cases hn : i < ns
    · obtain ⟨σ1, q1, q2, q3, q4⟩ := rec3 ns nb σ i
      obtain ⟨σ', t1, t2, t3, t4⟩ := ih (i + 1) u σ1 (by omega) (by omega)
      rw [iO_in hn, oc_s, if_pos hn, q1, Option.bind_some, t1]
      refine ⟨σ', rfl, fun j h1 h2 => ?_, fun k j f h => (t3 k j f (by omega)).trans (q3 k j f (by omega)), fun k j f h => (t4 k j f (by omega)).trans (q4 k j f (by omega))⟩
      by_cases hji : j = i
      · subst hji
        exact ⟨(t3 5 j 1 (by omega)).trans q2.1, (t4 5 j 2 (by omega)).trans q2.2.1, (t3 5 j 3 (by omega)).trans q2.2.2⟩
      · have h := t2 j (by omega) h2
        exact ⟨h.1.trans (q3 5 j 5 (by omega)), h.2.1.trans (q4 5 j 6 (by omega)), h.2.2.trans (q3 5 j 7 (by omega))⟩
    · obtain ⟨σ', t1, t2, t3, t4⟩ := ih (i + 1) u σ (by omega) (by omega)
      rw [iO_out hn, oc_n, t1]
      exact ⟨σ', rfl, fun j h1 h2 => by omega, fun k j f h => t3 k j f (by omega), fun k j f h => t4 k j f (by omega)⟩
theorem recB {ns nb : Nat} (h4 : nb ≤ 8) : ∀ (m i fuel : Nat) (σ : Sg), i + m = 8 → m < fuel → ∃ σ' : Sg, LX4_recallAll_46 ns nb fuel (nI i) σ = some σ' ∧ (∀ j, i ≤ j → j < nb → σ'.2 6 j 11 = σ.2 6 j 13 ∧ σ'.1 6 j 12 = σ.1 6 j 14) ∧ (∀ k j f, ¬ (k = 6 ∧ i ≤ j ∧ f = 12) → σ'.1 k j f = σ.1 k j f) ∧ ∀ k j f, ¬ (k = 6 ∧ i ≤ j ∧ f = 11) → σ'.2 k j f = σ.2 k j f := by
  intro m
  induction m with
  | zero =>
    intro i fuel σ hi hf
    obtain ⟨u, rfl⟩ : ∃ u, fuel = u + 1 := ⟨fuel - 1, by omega⟩
    have : i = 8 := by omega
    subst this
    exact ⟨σ, by rw [LX4_recallAll_46, if_pos (show (8 : Int32) ≤ nI 8 by decide)], fun j h1 h2 => by omega, fun _ _ _ _ => rfl, fun _ _ _ _ => rfl⟩
  | succ m ih =>
    intro i fuel σ hi hf
    obtain ⟨u, rfl⟩ : ∃ u, fuel = u + 1 := ⟨fuel - 1, by omega⟩
    rw [LX4_recallAll_46, if_neg (show ¬ ((8 : Int32) ≤ nI i) from nI_ge (b := 8) (by omega) (by omega)), if_neg (nI_in (by omega) (by omega)), nI_clamp (by omega), r1]
    by_cases hn : i < nb
    · obtain ⟨σ1, q1, q2, q3, q4⟩ := rec0 ns nb σ i
      obtain ⟨σ', t1, t2, t3, t4⟩ := ih (i + 1) u σ1 (by omega) (by omega)
      rw [iO_in hn, oc_s, if_pos hn, q1, Option.bind_some, t1]
      refine ⟨σ', rfl, fun j h1 h2 => ?_, fun k j f h => (t3 k j f (by omega)).trans (q3 k j f (by omega)), fun k j f h => (t4 k j f (by omega)).trans (q4 k j f (by omega))⟩
      by_cases hji : j = i
      · subst hji
        exact ⟨(t4 6 j 11 (by omega)).trans q2.1, (t3 6 j 12 (by omega)).trans q2.2⟩
      · have h := t2 j (by omega) h2
        exact ⟨h.1.trans (q4 6 j 13 (by omega)), h.2.trans (q3 6 j 14 (by omega))⟩
    · obtain ⟨σ', t1, t2, t3, t4⟩ := ih (i + 1) u σ (by omega) (by omega)
      rw [iO_out hn, oc_n, t1]
      exact ⟨σ', rfl, fun j h1 h2 => by omega, fun k j f h => t3 k j f (by omega), fun k j f h => t4 k j f (by omega)⟩
