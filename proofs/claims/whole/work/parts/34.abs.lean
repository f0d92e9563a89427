/-! WHAT THE PARLOUR IS, IN NATURAL NUMBERS: kind, number, place (the numbers of the world's roles; 12: a cam's points, lift + 1, 0 for none; 23: coupled) -/
abbrev Ab : Type := Nat → Nat → Nat → Nat
def aU (A : Ab) (k i f v : Nat) : Ab := fun k' i' f' => if k' = k ∧ i' = i ∧ f' = f then v else A k' i' f'
theorem aU_same (A : Ab) (k i f v : Nat) : aU A k i f v k i f = v := if_pos ⟨rfl, rfl, rfl⟩
theorem aU_k {A : Ab} {k i f v k' i' f' : Nat} (h : k' ≠ k) : aU A k i f v k' i' f' = A k' i' f' := if_neg fun q => h q.1
theorem aU_i {A : Ab} {k i f v k' i' f' : Nat} (h : i' ≠ i) : aU A k i f v k' i' f' = A k' i' f' := if_neg fun q => h q.2.1
theorem aU_f {A : Ab} {k i f v k' i' f' : Nat} (h : f' ≠ f) : aU A k i f v k' i' f' = A k' i' f' := if_neg fun q => h q.2.2
theorem aU_eq (A : Ab) (k i f v k' i' f' : Nat) : aU A k i f v k' i' f' = if k' = k ∧ i' = i ∧ f' = f then v else A k' i' f' := rfl
theorem sI_eq (σ : Sg) (k i f : Nat) (v : Int32) (k' i' f' : Nat) : (sI σ k i f v).1 k' i' f' = if k' = k ∧ i' = i ∧ f' = f then v else σ.1 k' i' f' := rfl
theorem sI_2 (σ : Sg) (k i f : Nat) (v : Int32) : (sI σ k i f v).2 = σ.2 := rfl
theorem sL_1 (σ : Sg) (k i f : Nat) (v : Int64) : (sL σ k i f v).1 = σ.1 := rfl
theorem sL_eq (σ : Sg) (k i f : Nat) (v : Int64) (k' i' f' : Nat) : (sL σ k i f v).2 k' i' f' = if k' = k ∧ i' = i ∧ f' = f then v else σ.2 k' i' f' := rfl
/-- the component's springs -/
def cSp (A : Ab) (σ : Sg) (ns : Nat) : Prop := ∀ i, i < ns → σ.1 5 i 0 = nI (A 5 i 0) ∧ σ.1 5 i 1 = nI (A 5 i 1) ∧ σ.2 5 i 2 = lN (A 5 i 2) ∧ σ.1 5 i 3 = nI (A 5 i 3) ∧ σ.1 5 i 4 = nI (A 5 i 4)
/-- the component's birds -/
def cBd (A : Ab) (σ : Sg) (nb : Nat) : Prop := ∀ b, b < nb → σ.1 6 b 0 = nI (A 6 b 0) ∧ σ.1 6 b 1 = nI (A 6 b 1) ∧ σ.1 6 b 2 = nI (A 6 b 2) ∧ σ.1 6 b 3 = nI (A 6 b 3) ∧ σ.1 6 b 4 = nI (A 6 b 4) ∧ σ.1 6 b 8 = nI (A 6 b 8) ∧ σ.1 6 b 9 = nI (A 6 b 9) ∧ σ.2 6 b 10 = lN (A 6 b 10) ∧ σ.2 6 b 11 = lN (A 6 b 11) ∧ σ.1 6 b 12 = nI (A 6 b 12)
def cLv (A : Ab) (σ : Sg) (nb : Nat) : Prop := ∀ b, b < nb → ∀ x, x < 96 → σ.1 7 b x = nI (A 7 b x)
def cNt (A : Ab) (σ : Sg) (nb : Nat) : Prop := ∀ b, b < nb → ∀ x, x < 6 → σ.1 8 b x = nI (A 8 b x)
/-- how many of the first n places of a cam have a point -/
def ptsA (P : Nat → Nat) : Nat → Nat
  | 0 => 0
  | n + 1 => ptsA P n + (if P n = 0 then 0 else 1)
/-- the steps back from place x to a point, at most n -/
def bkA (P : Nat → Nat) (n x : Nat) : Nat → Nat → Nat
  | 0, d => d
  | m + 1, d => if P ((x + n - d) % n) = 0 then bkA P n x m (d + 1) else d
/-- the steps on from place x to a point -/
def ahA (P : Nat → Nat) (n x : Nat) : Nat → Nat → Nat
  | 0, d => d
  | m + 1, d => if P ((x + d) % n) = 0 then ahA P n x m (d + 1) else d
/-- the lift at a place -/
def lfA (P : Nat → Nat) (n x : Nat) : Int :=
  if bkA P n x n 0 = n then 0
  else ((P ((x + n - bkA P n x n 0) % n) : Int) - 1) + (((P ((x + ahA P n x n 1) % n) : Int) - (P ((x + n - bkA P n x n 0) % n) : Int)) * (bkA P n x n 0 : Int)).fdiv ((bkA P n x n 0 : Int) + (ahA P n x n 1 : Int))
def cCm (A : Ab) (σ : Sg) (nb : Nat) : Prop := ∀ b, b < nb → ∀ c, c < 3 → σ.1 10 (3 * b + c) 2 = nI (ptsA (A 12 (3 * b + c)) (A 6 b 2)) ∧ (∀ x, x < 96 → σ.1 11 (3 * b + c) x = if A 12 (3 * b + c) x = 0 then 0 else 1) ∧ ∀ x, x < A 6 b 2 → (σ.1 12 (3 * b + c) x).toInt = lfA (A 12 (3 * b + c)) (A 6 b 2) x
def cSg (A : Ab) (σ : Sg) : Prop := σ.1 3 0 1 = nI (A 3 0 1) ∧ σ.1 3 0 2 = nI (A 3 0 2) ∧ ∀ j, j < 4 * A 3 0 1 → σ.1 4 0 j = nI (A 4 0 j)
/-- the six pairs as bits -/
def cpA (A : Ab) : Nat := A 23 0 1 * 2 + A 23 0 2 * 4 + A 23 0 3 * 8 + A 23 1 2 * 64 + A 23 1 3 * 128 + A 23 2 3 * 2048
def cPl (A : Ab) (σ : Sg) (ns nb : Nat) : Prop := σ.1 0 0 3 = nI ns ∧ σ.1 0 0 4 = nI nb ∧ σ.1 0 0 5 = nI (cpA A) ∧ σ.1 0 0 6 = nI (A 0 0 6)
/-- the component's half -/
def Cm (A : Ab) (ns nb : Nat) (σ : Sg) : Prop := cSp A σ ns ∧ cBd A σ nb ∧ cLv A σ nb ∧ cNt A σ nb ∧ cCm A σ nb ∧ cSg A σ ∧ cPl A σ ns nb
/-- the reference's half -/
def mSp (A : Ab) (σ : Sg) : Prop := ∀ i, i < 4 → ∀ f, f < 5 → σ.1 21 0 (5 * i + f) = nI (A 5 i f)
def mBd (A : Ab) (σ : Sg) (nb : Nat) : Prop := ∀ b, b < nb → σ.1 22 0 (11 * b) = nI (A 6 b 0) ∧ σ.1 22 0 (11 * b + 1) = nI (A 6 b 1) ∧ σ.1 22 0 (11 * b + 2) = nI (A 6 b 2) ∧ σ.1 22 0 (11 * b + 3) = nI (A 6 b 3) ∧ σ.1 22 0 (11 * b + 4) = nI (A 6 b 4) ∧ σ.1 22 0 (11 * b + 5) = nI (A 6 b 11 % A 6 b 2) ∧ σ.1 22 0 (11 * b + 6) = nI (A 6 b 9) ∧ σ.1 22 0 (11 * b + 7) = nI (A 6 b 8) ∧ σ.1 22 0 (11 * b + 8) = nI (A 6 b 11) ∧ σ.1 22 0 (11 * b + 9) = nI (A 6 b 12) ∧ σ.1 22 0 (11 * b + 10) = nI (A 6 b 10)
def mLv (A : Ab) (σ : Sg) : Prop := ∀ b, b < 8 → ∀ x, x < 96 → σ.1 24 0 (96 * b + x) = nI (A 7 b x)
def mNt (A : Ab) (σ : Sg) (nb : Nat) : Prop := ∀ b, b < nb → ∀ x, x < 6 → σ.1 25 0 (6 * b + x) = nI (A 8 b x)
def mCm (A : Ab) (σ : Sg) (nb : Nat) : Prop := ∀ k, k < 3 * nb → ∀ x, x < 96 → σ.1 26 0 (96 * k + x) = nI (A 12 k x) - 1
def mSg (A : Ab) (σ : Sg) : Prop := σ.1 20 0 11 = nI (A 3 0 1) ∧ σ.1 20 0 10 = nI (A 3 0 2) ∧ ∀ j, j < 4 * A 3 0 1 → σ.1 27 0 j = nI (A 4 0 j)
def mCp (A : Ab) (σ : Sg) : Prop := ∀ a, a < 4 → ∀ b, b < 4 → σ.1 23 0 (4 * a + b) = if a < b then nI (A 23 a b) else 0
def mPl (A : Ab) (σ : Sg) (ns nb : Nat) : Prop := σ.1 20 0 2 = nI ns ∧ σ.1 20 0 3 = nI nb ∧ σ.1 20 0 1 = nI (A 0 0 6) ∧ σ.1 20 0 13 = 0
def Mm (A : Ab) (ns nb : Nat) (σ : Sg) : Prop := mSp A σ ∧ mBd A σ nb ∧ mLv A σ ∧ mNt A σ nb ∧ mCm A σ nb ∧ mSg A σ ∧ mCp A σ ∧ mPl A σ ns nb
/-- what is always so -/
def wSp (A : Ab) (ns : Nat) : Prop := (∀ i, i < ns → 1 ≤ A 5 i 0 ∧ A 5 i 0 ≤ 50 ∧ A 5 i 1 ≤ 200000 ∧ A 5 i 2 ≤ 400 * A 0 0 6 ∧ A 5 i 4 ≤ 1) ∧ ∀ i, ns ≤ i → ∀ f, A 5 i f = 0
def wBd (A : Ab) (ns nb : Nat) : Prop := ∀ b, b < nb → A 6 b 0 < ns ∧ A 6 b 1 ≤ 20 ∧ 8 ≤ A 6 b 2 ∧ A 6 b 2 ≤ 96 ∧ 1 ≤ A 6 b 3 ∧ A 6 b 3 ≤ 12 ∧ 1 ≤ A 6 b 4 ∧ A 6 b 4 ≤ 12 ∧ A 6 b 8 ≤ 24 ∧ A 6 b 9 ≤ 1 ∧ A 6 b 10 ≤ A 5 (A 6 b 0) 2 ∧ A 6 b 11 ≤ (A 5 (A 6 b 0) 2 - A 6 b 10) * A 6 b 3 * A 6 b 2 / (1000 * A 6 b 4)
def pc6 (n : Nat) : Nat := n % 2 + n / 2 % 2 + n / 4 % 2 + n / 8 % 2 + n / 16 % 2 + n / 32 % 2
def wLv (A : Ab) (nb : Nat) : Prop := (∀ b x, A 7 b x < 64) ∧ (∀ b, nb ≤ b → ∀ x, A 7 b x = 0) ∧ ∀ b, b < nb → A 6 b 8 = fb_sm (fun x => pc6 (A 7 b x)) 96
def wNt (A : Ab) : Prop := ∀ b x, A 8 b x ≤ 87
def wCm (A : Ab) (nb : Nat) : Prop := (∀ k x, A 12 k x ≤ 101) ∧ (∀ k, 3 * nb ≤ k → ∀ x, A 12 k x = 0) ∧ ∀ b, b < nb → ∀ c, c < 3 → (∀ x, A 6 b 2 ≤ x → A 12 (3 * b + c) x = 0) ∧ ptsA (A 12 (3 * b + c)) (A 6 b 2) ≤ 8
def wSg (A : Ab) (nb : Nat) : Prop := A 3 0 1 ≤ 250 ∧ ∀ j, j < A 3 0 1 → A 4 0 (4 * j + 1) < nb ∧ A 4 0 (4 * j + 3) ≤ 87
def wCp (A : Ab) : Prop := ∀ a b, A 23 a b ≤ 1
def Wf (A : Ab) (ns nb T : Nat) : Prop := ns ≤ 4 ∧ nb ≤ 8 ∧ A 0 0 6 ≤ 500 * T ∧ wSp A ns ∧ wBd A ns nb ∧ wLv A nb ∧ wNt A ∧ wCm A nb ∧ wSg A nb ∧ wCp A
/-- what holds between the calls -/
def Inv (T ns nb : Nat) (σ : Sg) : Prop := ∃ A : Ab, Cm A ns nb σ ∧ Mm A ns nb σ ∧ Wf A ns nb T
/-- the component leaves the reference's half as it is, the reference the component's -/
def frC (σ τ : Sg) : Prop := ∀ k i f, 13 ≤ k → τ.1 k i f = σ.1 k i f ∧ τ.2 k i f = σ.2 k i f
def frM (σ τ : Sg) : Prop := ∀ k i f, (k < 20 ∨ k = 30) → τ.1 k i f = σ.1 k i f ∧ τ.2 k i f = σ.2 k i f
theorem frC.rf {σ : Sg} : frC σ σ := fun _ _ _ _ => ⟨rfl, rfl⟩
theorem frM.rf {σ : Sg} : frM σ σ := fun _ _ _ _ => ⟨rfl, rfl⟩
theorem frC.tr {a b c : Sg} (h : frC a b) (h2 : frC b c) : frC a c := fun k i f hk => ⟨(h2 k i f hk).1.trans (h k i f hk).1, (h2 k i f hk).2.trans (h k i f hk).2⟩
theorem frM.tr {a b c : Sg} (h : frM a b) (h2 : frM b c) : frM a c := fun k i f hk => ⟨(h2 k i f hk).1.trans (h k i f hk).1, (h2 k i f hk).2.trans (h k i f hk).2⟩
theorem Mm.fr {A : Ab} {ns nb : Nat} {σ τ : Sg} (h : Mm A ns nb σ) (hf : frC σ τ) : Mm A ns nb τ := by
  have e : ∀ k i f, 13 ≤ k → τ.1 k i f = σ.1 k i f := fun k i f hk => (hf k i f hk).1
  obtain ⟨h1, h2, h3, h4, h5, h6, h7, h8⟩ := h
  refine ⟨fun i hi f hf => by rw [e _ _ _ (by decide)]; exact h1 i hi f hf, fun b hb => ?_, fun b hb x hx => by rw [e _ _ _ (by decide)]; exact h3 b hb x hx, fun b hb x hx => by rw [e _ _ _ (by decide)]; exact h4 b hb x hx, fun k hk x hx => by rw [e _ _ _ (by decide)]; exact h5 k hk x hx, ⟨by rw [e _ _ _ (by decide)]; exact h6.1, by rw [e _ _ _ (by decide)]; exact h6.2.1, fun j hj => by rw [e _ _ _ (by decide)]; exact h6.2.2 j hj⟩, fun a ha b hb => by rw [e _ _ _ (by decide)]; exact h7 a ha b hb, ?_⟩
  · simp only [e 22 _ _ (by decide)]; exact h2 b hb
  · unfold mPl; simp only [e 20 _ _ (by decide)]; exact h8
theorem Cm.fr {A : Ab} {ns nb : Nat} {σ τ : Sg} (h : Cm A ns nb σ) (hf : frM σ τ) : Cm A ns nb τ := by
  have e : ∀ k i f, k < 20 → τ.1 k i f = σ.1 k i f := fun k i f hk => (hf k i f (Or.inl hk)).1
  have e2 : ∀ k i f, k < 20 → τ.2 k i f = σ.2 k i f := fun k i f hk => (hf k i f (Or.inl hk)).2
  obtain ⟨h1, h2, h3, h4, h5, h6, h7⟩ := h
  refine ⟨fun i hi => ?_, fun b hb => ?_, fun b hb x hx => by rw [e _ _ _ (by decide)]; exact h3 b hb x hx, fun b hb x hx => by rw [e _ _ _ (by decide)]; exact h4 b hb x hx, fun b hb c hc => ?_, ⟨by rw [e _ _ _ (by decide)]; exact h6.1, by rw [e _ _ _ (by decide)]; exact h6.2.1, fun j hj => by rw [e _ _ _ (by decide)]; exact h6.2.2 j hj⟩, ?_⟩
  · simp only [e 5 _ _ (by decide), e2 5 _ _ (by decide)]; exact h1 i hi
  · simp only [e 6 _ _ (by decide), e2 6 _ _ (by decide)]; exact h2 b hb
  · simp only [e 10 _ _ (by decide), e 11 _ _ (by decide), e 12 _ _ (by decide)]; exact h5 b hb c hc
  · unfold cPl; simp only [e 0 _ _ (by decide)]; exact h7
/-- both halves, from the two specifications -/
theorem both {ns nb ns' nb' T T' : Nat} {σ : Sg} {α β : Type} {FC : Sg → Option (α × Sg)} {FM : Sg → Option (β × Sg)} {P : α → β → Prop}
    (h : Inv T ns nb σ) (hs : ∀ A, Cm A ns nb σ → Wf A ns nb T → ∃ (r : α) (σ1 : Sg) (A' : Ab), FC σ = some (r, σ1) ∧ frC σ σ1 ∧ Cm A' ns' nb' σ1 ∧ Wf A' ns' nb' T' ∧ ∀ τ, Mm A ns nb τ → ∃ (q : β) (τ1 : Sg), FM τ = some (q, τ1) ∧ frM τ τ1 ∧ Mm A' ns' nb' τ1 ∧ P r q) :
    ∃ (r : α) (q : β) (σ1 σ2 : Sg), FC σ = some (r, σ1) ∧ FM σ1 = some (q, σ2) ∧ P r q ∧ (∀ i f, σ2.2 30 i f = σ1.2 30 i f) ∧ Inv T' ns' nb' σ2 := by
  obtain ⟨A, hC, hM, hW⟩ := h
  obtain ⟨r, σ1, A', e1, f1, c1, w1, hm⟩ := hs A hC hW
  obtain ⟨q, σ2, e2, f2, m2, hp⟩ := hm σ1 (hM.fr f1)
  exact ⟨r, q, σ1, σ2, e1, e2, hp, fun i f => (f2 30 i f (Or.inr rfl)).2, A', c1.fr f2, m2, w1⟩
