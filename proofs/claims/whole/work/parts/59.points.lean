/-! THE REFERENCE'S POINTS -/
theorem pts5 {A : Ab} {ns nb T : Nat} {τ : Sg} (hM : Mm A ns nb τ) (hW : Wf A ns nb T) {b c : Nat} (hb : b < nb) (hc : c < 3) : ∀ (m x fuel : Nat), x + m = A 6 b 2 → m < fuel → LX5_pointsOf_5 ns nb (nI b) (nI c) fuel (nI (ptsA (A 12 (3 * b + c)) x)) (nI x) τ = some (nI (ptsA (A 12 (3 * b + c)) (A 6 b 2)), τ) := by
  have h8 := hW.2.1
  obtain ⟨w0, w1, w2, w3, -⟩ := hW.2.2.2.2.1 b hb
  have hk : 3 * b + c < 3 * nb := by omega
  have hg : FX5_get ns nb τ (nI b) 2 = some (nI (A 6 b 2), τ) := by
    rw [← (hM.2.1 b hb).2.2.1]; exact gt5 (f := 2) (by omega) (by decide)
  have hcam : FX5_cam ns nb τ (nI b) (nI c) = some (nI (96 * (3 * b + c)), τ) := by
    unfold FX5_cam
    rw [show (96 : Int32) = nI 96 from rfl, show (3 : Int32) = nI 3 from rfl, pk_mul, nI_add, pk_mul]
  intro m
  induction m with
  | zero =>
    intro x fuel hx hf
    obtain ⟨u, rfl⟩ : ∃ u, fuel = u + 1 := ⟨fuel - 1, by omega⟩
    have : x = A 6 b 2 := by omega
    rw [LX5_pointsOf_5, hg, Option.bind_some]
    dsimp only
    rw [if_pos (nI_le (by omega) (by omega)), this]
  | succ m ih =>
    intro x fuel hx hf
    obtain ⟨u, rfl⟩ : ∃ u, fuel = u + 1 := ⟨fuel - 1, by omega⟩
    have ihu := ih (x + 1) u (by omega) (by omega)
    have hi := ix26 (nb := nb) hk h8 (y := x) (by omega)
    have hr := (row26 hM hW hk (y := x) (by omega)).1
    rw [LX5_pointsOf_5, hg, Option.bind_some]
    dsimp only
    rw [if_neg (nI_ge (by omega) (by omega)), hcam, Option.bind_some]
    dsimp only
    rw [if_neg hi.1, hi.2]
    rw [ptsA] at ihu
    by_cases hz : A 12 (3 * b + c) x = 0
    · rw [if_pos hz] at ihu
      rw [if_pos (hr.mpr hz), Int32.add_zero, nI_1]
      exact ihu
    · rw [if_neg hz] at ihu
      rw [if_neg (fun q => hz (hr.mp q)), nI_1, nI_1]
      exact ihu
theorem pointsM {A : Ab} {ns nb T : Nat} {τ : Sg} (hM : Mm A ns nb τ) (hW : Wf A ns nb T) {b c : Nat} (hb : b < nb) (hc : c < 3) : FX5_pointsOf ns nb τ (nI b) (nI c) = some (nI (ptsA (A 12 (3 * b + c)) (A 6 b 2)), τ) := by
  have w3 := (hW.2.2.2.2.1 b hb).2.2.2.1
  unfold FX5_pointsOf
  rw [show LX5_pointsOf_5 ns nb (nI b) (nI c) 4100 0 0 τ = _ from pts5 (ns := ns) hM hW hb hc (A 6 b 2) 0 4100 (by omega) (by omega)]
  rfl
/-- the count of points where one place changes -/
theorem pts_upd (P : Nat → Nat) (x v : Nat) : ∀ n, ptsA (fun y => if y = x then v else P y) n + (if x < n ∧ P x ≠ 0 then 1 else 0) = ptsA P n + (if x < n ∧ v ≠ 0 then 1 else 0) := by
  intro n
  induction n with
  | zero => simp [ptsA]
  | succ n ih =>
    rw [ptsA, ptsA]
    by_cases hn : n = x
    · subst hn
      rw [if_pos rfl]
      rw [if_neg (by omega), if_neg (by omega)] at ih
      generalize ptsA (fun y => if y = n then v else P y) n = q at ih ⊢
      by_cases h1 : v = 0 <;> by_cases h2 : P n = 0 <;> simp [h1, h2] <;> omega
    · rw [if_neg hn]
      have e1 : (x < n + 1 ∧ P x ≠ 0) ↔ (x < n ∧ P x ≠ 0) := by omega
      have e2 : (x < n + 1 ∧ v ≠ 0) ↔ (x < n ∧ v ≠ 0) := by omega
      simp only [e1, e2]
      omega
