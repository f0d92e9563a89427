/-! A CHECK BEHIND WHAT FOLLOWS -/
theorem pst {α : Type} {x : Option α} {P : α → Prop} [DecidablePred P] {z : α} (h : (x.bind fun r => if P r then some r else none) = some z) : x = some z ∧ P z := by
  cases x with
  | none => cases h
  | some a =>
    have h1 : (if P a then some a else none) = some z := h
    by_cases hp : P a
    · rw [if_pos hp] at h1
      cases h1
      exact ⟨rfl, hp⟩
    · rw [if_neg hp] at h1
      cases h1
