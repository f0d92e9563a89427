/-! WHAT THE PARLOUR IS, IN NATURAL NUMBERS: kind, number, place (the numbers of the world's roles; 12: a cam's points, lift + 1, 0 for none; 23: coupled) -/
abbrev Ab : Type := Nat → Nat → Nat → Nat
def aU (A : Ab) (k i f v : Nat) : Ab := fun k' i' f' => if k' = k ∧ i' = i ∧ f' = f then v else A k' i' f'
theorem aU_same (A : Ab) (k i f v : Nat) : aU A k i f v k i f = v := if_pos ⟨rfl, rfl, rfl⟩
theorem aU_k {A : Ab} {k i f v k' i' f' : Nat} (h : k' ≠ k) : aU A k i f v k' i' f' = A k' i' f' := if_neg fun q => h q.1
theorem aU_i {A : Ab} {k i f v k' i' f' : Nat} (h : i' ≠ i) : aU A k i f v k' i' f' = A k' i' f' := if_neg fun q => h q.2.1
theorem aU_f {A : Ab} {k i f v k' i' f' : Nat} (h : f' ≠ f) : aU A k i f v k' i' f' = A k' i' f' := if_neg fun q => h q.2.2
theorem aU_eq (A : Ab) (k i f v k' i' f' : Nat) : aU A k i f v k' i' f' = if k' = k ∧ i' = i ∧ f' = f then v else A k' i' f' := rfl
theorem sI_eq (σ : Sg) (k i f : Nat) (v : Int32) (k' i' f' : Nat) : (sI σ k i f v).1 k' i' f' = if k' = k ∧ i' = i ∧ f' = f then v else σ.1 k' i' f' := rfl
theorem sI_2 (σ : Sg) (k i f : Nat) (v : Int32) : (sI σ k i f v).2 = σ.2 := rfl
theorem sL_1 (σ : Sg) (k i f : Nat) (v : Int64) : (sL σ k i f v).1 = σ.1 := rfl
theorem sL_eq (σ : Sg) (k i f : Nat) (v : Int64) (k' i' f' : Nat) : (sL σ k i f v).2 k' i' f' = if k' = k ∧ i' = i ∧ f' = f then v else σ.2 k' i' f' := rfl
/-- the component's springs -/
def cSp (A : Ab) (σ : Sg) (ns : Nat) : Prop := ∀ i, i < ns → σ.1 5 i 0 = nI (A 5 i 0) ∧ σ.1 5 i 1 = nI (A 5 i 1) ∧ σ.2 5 i 2 = lN (A 5 i 2) ∧ σ.1 5 i 3 = nI (A 5 i 3) ∧ σ.1 5 i 4 = nI (A 5 i 4)
/-- the component's birds -/
def cBd (A : Ab) (σ : Sg) (nb : Nat) : Prop := ∀ b, b < nb → σ.1 6 b 0 = nI (A 6 b 0) ∧ σ.1 6 b 1 = nI (A 6 b 1) ∧ σ.1 6 b 2 = nI (A 6 b 2) ∧ σ.1 6 b 3 = nI (A 6 b 3) ∧ σ.1 6 b 4 = nI (A 6 b 4) ∧ σ.1 6 b 8 = nI (A 6 b 8) ∧ σ.1 6 b 9 = nI (A 6 b 9) ∧ σ.2 6 b 10 = lN (A 6 b 10) ∧ σ.2 6 b 11 = lN (A 6 b 11) ∧ σ.1 6 b 12 = nI (A 6 b 12)
def cLv (A : Ab) (σ : Sg) (nb : Nat) : Prop := ∀ b, b < nb → ∀ x, x < 96 → σ.1 7 b x = nI (A 7 b x)
def cNt (A : Ab) (σ : Sg) (nb : Nat) : Prop := ∀ b, b < nb → ∀ x, x < 6 → σ.1 8 b x = nI (A 8 b x)
/-- how many of the first n places of a cam have a point -/
def ptsA (P : Nat → Nat) : Nat → Nat
  | 0 => 0
  | n + 1 => ptsA P n + (if P n = 0 then 0 else 1)
/-- the steps back from place x to a point, at most n -/
def bkA (P : Nat → Nat) (n x : Nat) : Nat → Nat → Nat
  | 0, d => d
  | m + 1, d => if P ((x + n - d) % n) = 0 then bkA P n x m (d + 1) else d
/-- the steps on from place x to a point -/
def ahA (P : Nat → Nat) (n x : Nat) : Nat → Nat → Nat
  | 0, d => d
  | m + 1, d => if P ((x + d) % n) = 0 then ahA P n x m (d + 1) else d
/-- the lift at a place -/
def lfA (P : Nat → Nat) (n x : Nat) : Int :=
  if bkA P n x n 0 = n then 0
  else ((P ((x + n - bkA P n x n 0) % n) : Int) - 1) + (((P ((x + ahA P n x n 1) % n) : Int) - (P ((x + n - bkA P n x n 0) % n) : Int)) * (bkA P n x n 0 : Int)).fdiv ((bkA P n x n 0 : Int) + (ahA P n x n 1 : Int))
def cCm (A : Ab) (σ : Sg) (nb : Nat) : Prop := ∀ b, b < nb → ∀ c, c < 3 → σ.1 10 (3 * b + c) 2 = nI (ptsA (A 12 (3 * b + c)) (A 6 b 2)) ∧ (∀ x, x < 96 → σ.1 11 (3 * b + c) x = if A 12 (3 * b + c) x = 0 then 0 else 1) ∧ ∀ x, x < A 6 b 2 → (σ.1 12 (3 * b + c) x).toInt = lfA (A 12 (3 * b + c)) (A 6 b 2) x
def cSg (A : Ab) (σ : Sg) : Prop := σ.1 3 0 1 = nI (A 3 0 1) ∧ σ.1 3 0 2 = nI (A 3 0 2) ∧ ∀ j, j < 4 * A 3 0 1 → σ.1 4 0 j = nI (A 4 0 j)
/-- the six pairs as bits -/
def cpA (A : Ab) : Nat := A 23 0 1 * 2 + A 23 0 2 * 4 + A 23 0 3 * 8 + A 23 1 2 * 64 + A 23 1 3 * 128 + A 23 2 3 * 2048
def cPl (A : Ab) (σ : Sg) (ns nb : Nat) : Prop := σ.1 0 0 3 = nI ns ∧ σ.1 0 0 4 = nI nb ∧ σ.1 0 0 5 = nI (cpA A) ∧ σ.1 0 0 6 = nI (A 0 0 6)
/-- the component's half -/
def Cm (A : Ab) (ns nb : Nat) (σ : Sg) : Prop := cSp A σ ns ∧ cBd A σ nb ∧ cLv A σ nb ∧ cNt A σ nb ∧ cCm A σ nb ∧ cSg A σ ∧ cPl A σ ns nb
/-- what is always so -/
def wSp (A : Ab) (ns : Nat) : Prop := (∀ i, i < ns → 1 ≤ A 5 i 0 ∧ A 5 i 0 ≤ 50 ∧ A 5 i 1 ≤ 200000 ∧ A 5 i 2 ≤ 400 * A 0 0 6 ∧ A 5 i 4 ≤ 1) ∧ ∀ i, ns ≤ i → ∀ f, A 5 i f = 0
def wBd (A : Ab) (ns nb : Nat) : Prop := ∀ b, b < nb → A 6 b 0 < ns ∧ A 6 b 1 ≤ 20 ∧ 8 ≤ A 6 b 2 ∧ A 6 b 2 ≤ 96 ∧ 1 ≤ A 6 b 3 ∧ A 6 b 3 ≤ 12 ∧ 1 ≤ A 6 b 4 ∧ A 6 b 4 ≤ 12 ∧ A 6 b 8 ≤ 24 ∧ A 6 b 9 ≤ 1 ∧ A 6 b 10 ≤ A 5 (A 6 b 0) 2 ∧ A 6 b 11 ≤ (A 5 (A 6 b 0) 2 - A 6 b 10) * A 6 b 3 * A 6 b 2 / (1000 * A 6 b 4)
def pc6 (n : Nat) : Nat := n % 2 + n / 2 % 2 + n / 4 % 2 + n / 8 % 2 + n / 16 % 2 + n / 32 % 2
def wLv (A : Ab) (nb : Nat) : Prop := (∀ b x, A 7 b x < 64) ∧ (∀ b, nb ≤ b → ∀ x, A 7 b x = 0) ∧ ∀ b, b < nb → A 6 b 8 = fb_sm (fun x => pc6 (A 7 b x)) 96
def wNt (A : Ab) : Prop := ∀ b x, A 8 b x ≤ 87
def wCm (A : Ab) (nb : Nat) : Prop := (∀ k x, A 12 k x ≤ 101) ∧ (∀ k, 3 * nb ≤ k → ∀ x, A 12 k x = 0) ∧ ∀ b, b < nb → ∀ c, c < 3 → (∀ x, A 6 b 2 ≤ x → A 12 (3 * b + c) x = 0) ∧ ptsA (A 12 (3 * b + c)) (A 6 b 2) ≤ 8
def wSg (A : Ab) (nb : Nat) : Prop := A 3 0 1 ≤ 250 ∧ ∀ j, j < A 3 0 1 → A 4 0 (4 * j + 1) < nb ∧ A 4 0 (4 * j + 3) ≤ 87
def wCp (A : Ab) : Prop := ∀ a b, A 23 a b ≤ 1
def Wf (A : Ab) (ns nb T : Nat) : Prop := ns ≤ 4 ∧ nb ≤ 8 ∧ A 0 0 6 ≤ 500 * T ∧ wSp A ns ∧ wBd A ns nb ∧ wLv A nb ∧ wNt A ∧ wCm A nb ∧ wSg A nb ∧ wCp A
/-- the component leaves the reference's half as it is, the reference the component's -/
def frC (σ τ : Sg) : Prop := ∀ k i f, 13 ≤ k → τ.1 k i f = σ.1 k i f ∧ τ.2 k i f = σ.2 k i f
theorem frC.rf {σ : Sg} : frC σ σ := fun _ _ _ _ => ⟨rfl, rfl⟩
theorem frC.tr {a b c : Sg} (h : frC a b) (h2 : frC b c) : frC a c := fun k i f hk => ⟨(h2 k i f hk).1.trans (h k i f hk).1, (h2 k i f hk).2.trans (h k i f hk).2⟩
/-! THE SMALL METHODS, IN NUMBERS -/
theorem Int32_1 : (1 : Int32).toInt = 1 := by decide
theorem Int32_0 : (0 : Int32).toInt = 0 := by decide
theorem isIn4 (ns nb : Nat) (σ : Sg) (a lo hi : Int32) : FX4_isIn ns nb σ a lo hi = some (if a < lo ∨ hi < a then 0 else 1, σ) := by
  unfold FX4_isIn
  by_cases h1 : a < lo
  · rw [if_pos h1, if_pos (Or.inl h1)]
  · rw [if_neg h1]
    by_cases h2 : hi < a
    · rw [if_pos h2, if_pos (Or.inr h2)]
    · rw [if_neg h2, if_neg (by rintro (q | q) <;> contradiction)]
theorem in4y {ns nb : Nat} {σ : Sg} {a lo hi : Int32} (h : ¬ (a < lo ∨ hi < a)) : FX4_isIn ns nb σ a lo hi = some (1, σ) := by rw [isIn4, if_neg h]
theorem in4n {ns nb : Nat} {σ : Sg} {a lo hi : Int32} (h : a < lo ∨ hi < a) : FX4_isIn ns nb σ a lo hi = some (0, σ) := by rw [isIn4, if_pos h]
theorem rng0 {a : Int32} {n : Nat} (hn : n < 2 ^ 31) : (a < 0 ∨ nI n - 1 < a) ↔ ¬ vp_in a n := by
  have h1 : (nI n - 1).toInt = (n : Int) - 1 := by
    rw [fb_subI, nI_toInt hn, Int32_1] <;> rw [nI_toInt hn, Int32_1] <;> omega
  rw [vp_in_iff, Int32.lt_iff_toInt_lt, Int32.lt_iff_toInt_lt, h1, Int32_0]
  omega
/-- a range of numbers -/
theorem rngN {a : Int32} {x y : Nat} (hx : x < 2 ^ 31) (hy : y < 2 ^ 31) : (a < nI x ∨ nI y < a) ∨ ∃ j, x ≤ j ∧ j ≤ y ∧ a = nI j := by
  by_cases h1 : a < nI x
  · exact Or.inl (Or.inl h1)
  by_cases h2 : nI y < a
  · exact Or.inl (Or.inr h2)
  refine Or.inr ⟨a.toInt.toNat, ?_⟩
  rw [Int32.lt_iff_toInt_lt, nI_toInt hx] at h1
  rw [Int32.lt_iff_toInt_lt, nI_toInt hy] at h2
  refine ⟨by omega, by omega, Int32.toInt_inj.mp ?_⟩
  rw [nI_toInt (by omega)]
  omega
theorem in_rng {j x y : Nat} (h1 : x ≤ j) (h2 : j ≤ y) (hy : y < 2 ^ 31) : ¬ (nI j < nI x ∨ nI y < nI j) := by
  rw [nI_ltI (by omega) (by omega), nI_ltI (by omega) (by omega)]
  omega
theorem out4 {a : Int32} {n N : Nat} (hN : n ≤ N) (h31 : N < 2 ^ 31) (h : ¬ vp_in a n) : a < 0 ∨ nI N ≤ a ∨ ∃ j, n ≤ j ∧ j < N ∧ a = nI j := by
  by_cases h1 : a < 0
  · exact Or.inl h1
  by_cases h2 : nI N ≤ a
  · exact Or.inr (Or.inl h2)
  refine Or.inr (Or.inr ⟨a.toInt.toNat, ?_⟩)
  rw [Int32.lt_iff_toInt_lt, Int32_0] at h1
  rw [Int32.le_iff_toInt_le, nI_toInt h31] at h2
  rw [vp_in_iff] at h
  refine ⟨by omega, by omega, Int32.toInt_inj.mp ?_⟩
  rw [nI_toInt (by omega)]
  omega
theorem spAt_in {ns nb i : Nat} {σ : Sg} (h4 : ns ≤ 4) (hi : i < ns) : FX4_springAt ns nb σ (nI i) = some (some i, σ) := by
  unfold FX4_springAt iO
  rw [if_neg (nI_pos (by omega)), if_neg (show ¬ ((4 : Int32) ≤ nI i) from nI_ge (b := 4) (by omega) (by omega)), if_neg (nI_in (by omega) (by omega)), nI_clamp (by omega), if_pos hi, oc_s, if_pos hi]
theorem spAt_out {ns nb : Nat} {a : Int32} {σ : Sg} (h4 : ns ≤ 4) (h : ¬ vp_in a ns) : FX4_springAt ns nb σ a = some (none, σ) := by
  unfold FX4_springAt iO
  rcases out4 h4 (by decide) h with h1 | h1 | ⟨j, h1, h2, rfl⟩
  · rw [if_pos h1]
  · by_cases h0 : a < 0
    · rw [if_pos h0]
    · rw [if_neg h0, if_pos (show (4 : Int32) ≤ a from h1)]
  · rw [if_neg (nI_pos (by omega)), if_neg (show ¬ ((4 : Int32) ≤ nI j) from nI_ge (b := 4) (by omega) (by omega)), if_neg (nI_in (by omega) (by omega)), nI_clamp (by omega), if_neg (by omega), oc_n]
theorem bdAt_in {ns nb i : Nat} {σ : Sg} (h4 : nb ≤ 8) (hi : i < nb) : FX4_birdAt ns nb σ (nI i) = some (some i, σ) := by
  unfold FX4_birdAt iO
  rw [if_neg (nI_pos (by omega)), if_neg (show ¬ ((8 : Int32) ≤ nI i) from nI_ge (b := 8) (by omega) (by omega)), if_neg (nI_in (by omega) (by omega)), nI_clamp (by omega), if_pos hi, oc_s, if_pos hi]
theorem bdAt_out {ns nb : Nat} {a : Int32} {σ : Sg} (h4 : nb ≤ 8) (h : ¬ vp_in a nb) : FX4_birdAt ns nb σ a = some (none, σ) := by
  unfold FX4_birdAt iO
  rcases out4 h4 (by decide) h with h1 | h1 | ⟨j, h1, h2, rfl⟩
  · rw [if_pos h1]
  · by_cases h0 : a < 0
    · rw [if_pos h0]
    · rw [if_neg h0, if_pos (show (8 : Int32) ≤ a from h1)]
  · rw [if_neg (nI_pos (by omega)), if_neg (show ¬ ((8 : Int32) ≤ nI j) from nI_ge (b := 8) (by omega) (by omega)), if_neg (nI_in (by omega) (by omega)), nI_clamp (by omega), if_neg (by omega), oc_n]
theorem mn_nI {a b : Nat} (ha : a < 2 ^ 31) (hb : b < 2 ^ 31) : mnI (nI a) (nI b) = nI (min a b) := by
  unfold mnI
  by_cases h : b < a
  · rw [if_pos ((nI_ltI hb ha).mpr h), Nat.min_eq_right (by omega)]
  · rw [if_neg (fun q => h ((nI_ltI hb ha).mp q)), Nat.min_eq_left (by omega)]
theorem mx_nI {a b : Nat} (ha : a < 2 ^ 31) (hb : b < 2 ^ 31) : mxI (nI a) (nI b) = nI (max a b) := by
  unfold mxI
  by_cases h : a < b
  · rw [if_pos ((nI_ltI ha hb).mpr h), Nat.max_eq_right (by omega)]
  · rw [if_neg (fun q => h ((nI_ltI ha hb).mp q)), Nat.max_eq_left (by omega)]
/-- the state at the start -/
def sg0 : Sg := (fun _ _ _ => 0, fun _ _ _ => 0)
