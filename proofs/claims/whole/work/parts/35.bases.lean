/-! THE SMALL METHODS, IN NUMBERS -/
theorem Int32_1 : (1 : Int32).toInt = 1 := by decide
theorem Int32_0 : (0 : Int32).toInt = 0 := by decide
theorem isIn4 (ns nb : Nat) (σ : Sg) (a lo hi : Int32) : FX4_isIn ns nb σ a lo hi = some (if a < lo ∨ hi < a then 0 else 1, σ) := by
  unfold FX4_isIn
  by_cases h1 : a < lo
  · rw [if_pos h1, if_pos (Or.inl h1)]
  · rw [if_neg h1]
    by_cases h2 : hi < a
    · rw [if_pos h2, if_pos (Or.inr h2)]
    · rw [if_neg h2, if_neg (by rintro (q | q) <;> contradiction)]
theorem isIn5 (ns nb : Nat) (σ : Sg) (a lo hi : Int32) : FX5_isIn ns nb σ a lo hi = some (if a < lo ∨ hi < a then 0 else 1, σ) := isIn4 ns nb σ a lo hi
theorem in4y {ns nb : Nat} {σ : Sg} {a lo hi : Int32} (h : ¬ (a < lo ∨ hi < a)) : FX4_isIn ns nb σ a lo hi = some (1, σ) := by rw [isIn4, if_neg h]
theorem in4n {ns nb : Nat} {σ : Sg} {a lo hi : Int32} (h : a < lo ∨ hi < a) : FX4_isIn ns nb σ a lo hi = some (0, σ) := by rw [isIn4, if_pos h]
theorem in5y {ns nb : Nat} {σ : Sg} {a lo hi : Int32} (h : ¬ (a < lo ∨ hi < a)) : FX5_isIn ns nb σ a lo hi = some (1, σ) := by rw [isIn5, if_neg h]
theorem in5n {ns nb : Nat} {σ : Sg} {a lo hi : Int32} (h : a < lo ∨ hi < a) : FX5_isIn ns nb σ a lo hi = some (0, σ) := by rw [isIn5, if_pos h]
theorem rng0 {a : Int32} {n : Nat} (hn : n < 2 ^ 31) : (a < 0 ∨ nI n - 1 < a) ↔ ¬ vp_in a n := by
  have h1 : (nI n - 1).toInt = (n : Int) - 1 := by
    rw [fb_subI, nI_toInt hn, Int32_1] <;> rw [nI_toInt hn, Int32_1] <;> omega
  rw [vp_in_iff, Int32.lt_iff_toInt_lt, Int32.lt_iff_toInt_lt, h1, Int32_0]
  omega
/-- a range of numbers -/
theorem rngN {a : Int32} {x y : Nat} (hx : x < 2 ^ 31) (hy : y < 2 ^ 31) : (a < nI x ∨ nI y < a) ∨ ∃ j, x ≤ j ∧ j ≤ y ∧ a = nI j := by
  by_cases h1 : a < nI x
  · exact Or.inl (Or.inl h1)
  by_cases h2 : nI y < a
  · exact Or.inl (Or.inr h2)
  refine Or.inr ⟨a.toInt.toNat, ?_⟩
  rw [Int32.lt_iff_toInt_lt, nI_toInt hx] at h1
  rw [Int32.lt_iff_toInt_lt, nI_toInt hy] at h2
  refine ⟨by omega, by omega, Int32.toInt_inj.mp ?_⟩
  rw [nI_toInt (by omega)]
  omega
theorem in_rng {j x y : Nat} (h1 : x ≤ j) (h2 : j ≤ y) (hy : y < 2 ^ 31) : ¬ (nI j < nI x ∨ nI y < nI j) := by
  rw [nI_ltI (by omega) (by omega), nI_ltI (by omega) (by omega)]
  omega
theorem out4 {a : Int32} {n N : Nat} (hN : n ≤ N) (h31 : N < 2 ^ 31) (h : ¬ vp_in a n) : a < 0 ∨ nI N ≤ a ∨ ∃ j, n ≤ j ∧ j < N ∧ a = nI j := by
  by_cases h1 : a < 0
  · exact Or.inl h1
  by_cases h2 : nI N ≤ a
  · exact Or.inr (Or.inl h2)
  refine Or.inr (Or.inr ⟨a.toInt.toNat, ?_⟩)
  rw [Int32.lt_iff_toInt_lt, Int32_0] at h1
  rw [Int32.le_iff_toInt_le, nI_toInt h31] at h2
  rw [vp_in_iff] at h
  refine ⟨by omega, by omega, Int32.toInt_inj.mp ?_⟩
  rw [nI_toInt (by omega)]
  omega
theorem spAt_in {ns nb i : Nat} {σ : Sg} (h4 : ns ≤ 4) (hi : i < ns) : FX4_springAt ns nb σ (nI i) = some (some i, σ) := by
  unfold FX4_springAt iO
  rw [if_neg (nI_pos (by omega)), if_neg (show ¬ ((4 : Int32) ≤ nI i) from nI_ge (b := 4) (by omega) (by omega)), if_neg (nI_in (by omega) (by omega)), nI_clamp (by omega), if_pos hi, oc_s, if_pos hi]
theorem spAt_out {ns nb : Nat} {a : Int32} {σ : Sg} (h4 : ns ≤ 4) (h : ¬ vp_in a ns) : FX4_springAt ns nb σ a = some (none, σ) := by
  unfold FX4_springAt iO
  rcases out4 h4 (by decide) h with h1 | h1 | ⟨j, h1, h2, rfl⟩
  · rw [if_pos h1]
  · by_cases h0 : a < 0
    · rw [if_pos h0]
    · rw [if_neg h0, if_pos (show (4 : Int32) ≤ a from h1)]
  · rw [if_neg (nI_pos (by omega)), if_neg (show ¬ ((4 : Int32) ≤ nI j) from nI_ge (b := 4) (by omega) (by omega)), if_neg (nI_in (by omega) (by omega)), nI_clamp (by omega), if_neg (by omega), oc_n]
theorem bdAt_in {ns nb i : Nat} {σ : Sg} (h4 : nb ≤ 8) (hi : i < nb) : FX4_birdAt ns nb σ (nI i) = some (some i, σ) := by
  unfold FX4_birdAt iO
  rw [if_neg (nI_pos (by omega)), if_neg (show ¬ ((8 : Int32) ≤ nI i) from nI_ge (b := 8) (by omega) (by omega)), if_neg (nI_in (by omega) (by omega)), nI_clamp (by omega), if_pos hi, oc_s, if_pos hi]
theorem bdAt_out {ns nb : Nat} {a : Int32} {σ : Sg} (h4 : nb ≤ 8) (h : ¬ vp_in a nb) : FX4_birdAt ns nb σ a = some (none, σ) := by
  unfold FX4_birdAt iO
  rcases out4 h4 (by decide) h with h1 | h1 | ⟨j, h1, h2, rfl⟩
  · rw [if_pos h1]
  · by_cases h0 : a < 0
    · rw [if_pos h0]
    · rw [if_neg h0, if_pos (show (8 : Int32) ≤ a from h1)]
  · rw [if_neg (nI_pos (by omega)), if_neg (show ¬ ((8 : Int32) ≤ nI j) from nI_ge (b := 8) (by omega) (by omega)), if_neg (nI_in (by omega) (by omega)), nI_clamp (by omega), if_neg (by omega), oc_n]
theorem isSp_in {ns nb n i : Nat} {τ : Sg} (hn : n < 2 ^ 31) (e : τ.1 20 0 2 = nI n) (hi : i < n) : FX5_isSpring ns nb τ (nI i) = some (1, τ) := by
  unfold FX5_isSpring
  rw [e, in5y (by rw [rng0 hn]; exact fun q => q (vp_in_nI hi hn)), Option.bind_some]
  exact if_pos (Or.inr rfl)
theorem isSp_out {ns nb n : Nat} {a : Int32} {τ : Sg} (hn : n < 2 ^ 31) (e : τ.1 20 0 2 = nI n) (h : ¬ vp_in a n) : FX5_isSpring ns nb τ a = some (0, τ) := by
  unfold FX5_isSpring
  rw [e, in5n ((rng0 hn).mpr h), Option.bind_some]
  exact if_pos (Or.inl rfl)
theorem isBd_in {ns nb n i : Nat} {τ : Sg} (hn : n < 2 ^ 31) (e : τ.1 20 0 3 = nI n) (hi : i < n) : FX5_isBird ns nb τ (nI i) = some (1, τ) := by
  unfold FX5_isBird
  rw [e, in5y (by rw [rng0 hn]; exact fun q => q (vp_in_nI hi hn)), Option.bind_some]
  exact if_pos (Or.inr rfl)
theorem isBd_out {ns nb n : Nat} {a : Int32} {τ : Sg} (hn : n < 2 ^ 31) (e : τ.1 20 0 3 = nI n) (h : ¬ vp_in a n) : FX5_isBird ns nb τ a = some (0, τ) := by
  unfold FX5_isBird
  rw [e, in5n ((rng0 hn).mpr h), Option.bind_some]
  exact if_pos (Or.inl rfl)
theorem fail5 (ns nb : Nat) (τ : Sg) (k : Int32) : FX5_fail ns nb τ k = some (0, sI τ 20 0 0 k) := rfl
theorem ix5 {i f : Nat} (hi : i < 4) (hf : f < 5) : ¬ ((5 * nI i + nI f) < 0 ∨ 20 ≤ (5 * nI i + nI f).toNatClampNeg) ∧ (5 * nI i + nI f).toNatClampNeg = 5 * i + f := by
  have e : 5 * nI i + nI f = nI (5 * i + f) := by rw [show (5 : Int32) = nI 5 from rfl, pk_mul, nI_add]
  rw [e]
  exact ⟨nI_in (by omega) (by decide), nI_clamp (by omega)⟩
theorem ix11 {i f : Nat} (hi : i < 8) (hf : f < 11) : ¬ ((11 * nI i + nI f) < 0 ∨ 88 ≤ (11 * nI i + nI f).toNatClampNeg) ∧ (11 * nI i + nI f).toNatClampNeg = 11 * i + f := by
  have e : 11 * nI i + nI f = nI (11 * i + f) := by rw [show (11 : Int32) = nI 11 from rfl, pk_mul, nI_add]
  rw [e]
  exact ⟨nI_in (by omega) (by decide), nI_clamp (by omega)⟩
theorem sp5 {ns nb i f : Nat} {τ : Sg} (hi : i < 4) (hf : f < 5) : FX5_sp ns nb τ (nI i) (nI f) = some (τ.1 21 0 (5 * i + f), τ) := by
  unfold FX5_sp
  rw [if_neg (ix5 hi hf).1, (ix5 hi hf).2]
theorem gt5 {ns nb i f : Nat} {τ : Sg} (hi : i < 8) (hf : f < 11) : FX5_get ns nb τ (nI i) (nI f) = some (τ.1 22 0 (11 * i + f), τ) := by
  unfold FX5_get
  rw [if_neg (ix11 hi hf).1, (ix11 hi hf).2]
theorem st5 {ns nb i f : Nat} {τ : Sg} {v : Int32} (hi : i < 8) (hf : f < 11) : FX5_set ns nb τ (nI i) (nI f) v = some (sI τ 22 0 (11 * i + f) v) := by
  unfold FX5_set
  rw [if_neg (ix11 hi hf).1, (ix11 hi hf).2]
theorem mn_nI {a b : Nat} (ha : a < 2 ^ 31) (hb : b < 2 ^ 31) : mnI (nI a) (nI b) = nI (min a b) := by
  unfold mnI
  by_cases h : b < a
  · rw [if_pos ((nI_ltI hb ha).mpr h), Nat.min_eq_right (by omega)]
  · rw [if_neg (fun q => h ((nI_ltI hb ha).mp q)), Nat.min_eq_left (by omega)]
theorem mx_nI {a b : Nat} (ha : a < 2 ^ 31) (hb : b < 2 ^ 31) : mxI (nI a) (nI b) = nI (max a b) := by
  unfold mxI
  by_cases h : a < b
  · rw [if_pos ((nI_ltI ha hb).mpr h), Nat.max_eq_right (by omega)]
  · rw [if_neg (fun q => h ((nI_ltI ha hb).mp q)), Nat.max_eq_left (by omega)]
