/-! A NOTE, IN THE COMPONENT -/
def hrA (A : Ab) (b l : Nat) : Ab :=
  if A 3 0 1 < 250 then aU (aU (aU (aU (aU (aU A 3 0 2 (A 3 0 2 + 1)) 4 0 (4 * A 3 0 1) (A 0 0 6)) 4 0 (4 * A 3 0 1 + 1) b) 4 0 (4 * A 3 0 1 + 2) l) 4 0 (4 * A 3 0 1 + 3) (A 8 b l)) 3 0 1 (A 3 0 1 + 1)
  else aU A 3 0 2 (A 3 0 2 + 1)
theorem hearC {A : Ab} {ns nb : Nat} {σ : Sg} {b l : Nat} (hC : Cm A ns nb σ) (h250 : A 3 0 1 ≤ 250) : ∃ σ' : Sg, FX2_hear ns nb σ (nI (A 0 0 6)) (nI b) (nI l) (nI (A 8 b l)) = some σ' ∧ frC σ σ' ∧ Cm (hrA A b l) ns nb σ' := by
  obtain ⟨h1, h2, h3, h4, h5, ⟨s1, s2, s3⟩, h7⟩ := hC
  have e1 : (sI σ 3 0 2 (σ.1 3 0 2 + 1)).1 3 0 1 = nI (A 3 0 1) := s1
  unfold FX2_hear hrA
  rw [e1]
  by_cases hk : A 3 0 1 < 250
  · have e4 : nI (A 3 0 1) * 4 = nI (4 * A 3 0 1) := by rw [show (4 : Int32) = nI 4 from rfl, pk_mul, Nat.mul_comm]
    have f1 : nI (4 * A 3 0 1) + 1 = nI (4 * A 3 0 1 + 1) := nI_1 _
    have f2 : nI (4 * A 3 0 1) + 2 = nI (4 * A 3 0 1 + 2) := nI_add _ 2
    have f3 : nI (4 * A 3 0 1) + 3 = nI (4 * A 3 0 1 + 3) := nI_add _ 3
    rw [if_pos hk, if_neg (show ¬ (250 : Int32) ≤ nI (A 3 0 1) from nI_ge (b := 250) hk (by decide)), e4, f1, f2, f3, put4 (k := 4) (N := 1000) rfl (by decide) (by omega), Option.bind_some, put4 (k := 4) (N := 1000) rfl (by decide) (by omega), Option.bind_some, put4 (k := 4) (N := 1000) rfl (by decide) (by omega), Option.bind_some, put4 (k := 4) (N := 1000) rfl (by decide) (by omega), Option.bind_some]
    have e1' : (sI (sI (sI (sI (sI σ 3 0 2 (σ.1 3 0 2 + 1)) 4 0 (4 * A 3 0 1) (nI (A 0 0 6))) 4 0 (4 * A 3 0 1 + 1) (nI b)) 4 0 (4 * A 3 0 1 + 2) (nI l)) 4 0 (4 * A 3 0 1 + 3) (nI (A 8 b l))).1 3 0 1 = nI (A 3 0 1) := s1
    rw [e1', s2, nI_1, nI_1]
    refine ⟨_, rfl, ((((((frC_I (by decide)).tr (frC_I (by decide))).tr (frC_I (by decide))).tr (frC_I (by decide))).tr (frC_I (by decide)))).tr (frC_I (by decide)), h1, h2, h3, h4, h5, ⟨rfl, rfl, fun j hj => ?_⟩, h7⟩
    have hj : j < 4 * (A 3 0 1 + 1) := hj
    have hA : aU (aU (aU (aU (aU (aU A 3 0 2 (A 3 0 2 + 1)) 4 0 (4 * A 3 0 1) (A 0 0 6)) 4 0 (4 * A 3 0 1 + 1) b) 4 0 (4 * A 3 0 1 + 2) l) 4 0 (4 * A 3 0 1 + 3) (A 8 b l)) 3 0 1 (A 3 0 1 + 1) 4 0 j = if j = 4 * A 3 0 1 + 3 then A 8 b l else if j = 4 * A 3 0 1 + 2 then l else if j = 4 * A 3 0 1 + 1 then b else if j = 4 * A 3 0 1 then A 0 0 6 else A 4 0 j := by simp [aU_eq]
    have hS : (sI (sI (sI (sI (sI (sI σ 3 0 2 (nI (A 3 0 2 + 1))) 4 0 (4 * A 3 0 1) (nI (A 0 0 6))) 4 0 (4 * A 3 0 1 + 1) (nI b)) 4 0 (4 * A 3 0 1 + 2) (nI l)) 4 0 (4 * A 3 0 1 + 3) (nI (A 8 b l))) 3 0 1 (nI (A 3 0 1 + 1))).1 4 0 j = if j = 4 * A 3 0 1 + 3 then nI (A 8 b l) else if j = 4 * A 3 0 1 + 2 then nI l else if j = 4 * A 3 0 1 + 1 then nI b else if j = 4 * A 3 0 1 then nI (A 0 0 6) else σ.1 4 0 j := by simp [sI_eq]
    rw [hA, hS]
    split
    · rfl
    · split
      · rfl
      · split
        · rfl
        · split
          · rfl
          · exact s3 j (by omega)
  · rw [if_neg hk, if_pos (show (250 : Int32) ≤ nI (A 3 0 1) from nI_le (a := 250) (by omega) (by omega)), s2, nI_1]
    exact ⟨_, rfl, frC_I (by decide), h1, h2, h3, h4, h5, ⟨s1, rfl, s3⟩, h7⟩
theorem payC {A : Ab} {ns nb : Nat} {σ : Sg} {s : Nat} (hC : Cm A ns nb σ) (hs : s < ns) (hh : A 5 s 1 ≤ 200000) : FX3_payForNote ns nb σ s = some (sI σ 5 s 1 (nI (A 5 s 1 - min 10 (A 5 s 1)))) ∧ Cm (aU A 5 s 1 (A 5 s 1 - min 10 (A 5 s 1))) ns nb (sI σ 5 s 1 (nI (A 5 s 1 - min 10 (A 5 s 1)))) := by
  have c1 := (hC.1 s hs).2.1
  refine ⟨?_, hC.sp (Or.inl rfl)⟩
  unfold FX3_payForNote
  rw [c1, show mnI 10 (nI (A 5 s 1)) = nI (min 10 (A 5 s 1)) from mn_nI (by decide) (by omega), pk_sub (by omega)]
