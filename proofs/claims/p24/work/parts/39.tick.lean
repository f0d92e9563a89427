/-! A TICK, IN NATURAL NUMBERS -/
theorem aU_sw {A : Ab} {k i f v k' i' f' v' : Nat} (h : ¬ (k = k' ∧ i = i' ∧ f = f')) : aU (aU A k i f v) k' i' f' v' = aU (aU A k' i' f' v') k i f v := by
  funext x y z
  simp only [aU_eq]
  by_cases q : x = k' ∧ y = i' ∧ z = f'
  · by_cases r : x = k ∧ y = i ∧ z = f
    · omega
    · rw [if_pos q, if_neg r, if_pos q]
  · by_cases r : x = k ∧ y = i ∧ z = f
    · rw [if_neg q, if_pos r, if_pos r]
    · rw [if_neg q, if_neg r, if_neg r, if_neg q]
theorem aU_tw (A : Ab) (k i f v w : Nat) : aU (aU A k i f v) k i f w = aU A k i f w := by
  funext x y z
  simp only [aU_eq]
  by_cases q : x = k ∧ y = i ∧ z = f
  · rw [if_pos q, if_pos q]
  · rw [if_neg q, if_neg q, if_neg q]
theorem aU_id {A : Ab} {k i f v : Nat} (h : A k i f = v) : aU A k i f v = A := by
  funext x y z
  rw [aU_eq]
  by_cases q : x = k ∧ y = i ∧ z = f
  · rw [if_pos q]
    obtain ⟨rfl, rfl, rfl⟩ := q
    exact h.symm
  · rw [if_neg q]
def payA (A : Ab) (s : Nat) : Ab := aU A 5 s 1 (A 5 s 1 - min 10 (A 5 s 1))
/-- a note -/
def noteA (A : Ab) (b l : Nat) : Ab := hrA (aU (payA A (A 6 b 0)) 6 b 12 (A 6 b 12 + 1)) b l
/-- the levers of the set v, from l on -/
def levA (b v : Nat) : Nat → Nat → Ab → Ab
  | 0, _, A => A
  | m + 1, l, A => levA b v m (l + 1) (if v / 2 ^ l % 2 = 1 then noteA A b l else A)
/-- the last places up to hi -/
def barA (b hi : Nat) : Nat → Ab → Ab
  | 0, A => A
  | m + 1, A => barA b hi m (levA b (A 7 b ((hi - m) % A 6 b 2)) 6 0 A)
def comeA (A : Ab) (b : Nat) : Nat := (A 5 (A 6 b 0) 2 - A 6 b 10) * A 6 b 3 * A 6 b 2 / (1000 * A 6 b 4)
def turnA (A : Ab) (b : Nat) : Ab := barA b (comeA A b) (min (comeA A b - A 6 b 11) (A 6 b 2)) (aU A 6 b 11 (comeA A b))
def birdsA (s : Nat) : Nat → Nat → Ab → Ab
  | 0, _, A => A
  | m + 1, b, A => birdsA s m (b + 1) (if drA A s b then turnA A b else A)
def speedA (A : Ab) (nb s : Nat) : Nat := min (min (max (A 5 s 0 * A 5 s 1 / (200 * loadA A nb s)) 1) 400) (A 5 s 1)
def moveA (A : Ab) (s v : Nat) : Ab := aU (aU (aU A 5 s 3 v) 5 s 2 (A 5 s 2 + v)) 5 s 1 (A 5 s 1 - v)
def shaftA (A : Ab) (nb s : Nat) : Ab := if A 5 s 4 = 0 ∧ A 5 s 1 ≠ 0 then birdsA s nb 0 (moveA A s (speedA A nb s)) else aU A 5 s 3 0
def springsA (nb : Nat) : Nat → Nat → Ab → Ab
  | 0, _, A => A
  | m + 1, s, A => springsA nb m (s + 1) (shaftA A nb s)
def shareA (A : Ab) (a b : Nat) : Ab := if A 5 b 1 ≤ A 5 a 1 then aU (aU A 5 a 1 (A 5 a 1 - (A 5 a 1 - A 5 b 1) / 10)) 5 b 1 (A 5 b 1 + (A 5 a 1 - A 5 b 1) / 10) else aU (aU A 5 a 1 (A 5 a 1 + (A 5 b 1 - A 5 a 1) / 10)) 5 b 1 (A 5 b 1 - (A 5 b 1 - A 5 a 1) / 10)
def shBA (ns a : Nat) : Nat → Nat → Ab → Ab
  | 0, _, A => A
  | m + 1, b, A => shBA ns a m (b + 1) (if a < ns ∧ b < ns ∧ A 23 a b = 1 then shareA A a b else A)
def shAA (ns : Nat) : Nat → Nat → Ab → Ab
  | 0, _, A => A
  | m + 1, a, A => shAA ns m (a + 1) (shBA ns a (4 - (a + 1)) (a + 1) A)
def tickA (ns nb : Nat) (A : Ab) : Ab := springsA nb ns 0 (shAA ns 4 0 (aU A 0 0 6 (A 0 0 6 + 1)))
def runA (ns nb : Nat) : Nat → Ab → Ab
  | 0, A => A
  | m + 1, A => runA ns nb m (tickA ns nb A)
theorem hrA_U {A : Ab} {b l k i f w : Nat} (hk : k = 5 ∨ k = 6) : aU (hrA A b l) k i f w = hrA (aU A k i f w) b l := by
  have e1 : aU A k i f w 3 0 1 = A 3 0 1 := aU_k (by omega)
  have e2 : aU A k i f w 3 0 2 = A 3 0 2 := aU_k (by omega)
  have e3 : aU A k i f w 0 0 6 = A 0 0 6 := aU_k (by omega)
  have e4 : aU A k i f w 8 b l = A 8 b l := aU_k (by omega)
  have p : ∀ (X : Ab) (k1 i1 f1 v1 : Nat), k1 ≠ k → aU (aU X k1 i1 f1 v1) k i f w = aU (aU X k i f w) k1 i1 f1 v1 := fun X k1 i1 f1 v1 h => aU_sw (by omega)
  unfold hrA
  rw [e1, e2, e3, e4]
  by_cases h : A 3 0 1 < 250
  · rw [if_pos h, if_pos h, p _ 3 0 1 _ (by omega), p _ 4 _ _ _ (by omega), p _ 4 _ _ _ (by omega), p _ 4 _ _ _ (by omega), p _ 4 _ _ _ (by omega), p _ 3 _ _ _ (by omega)]
  · rw [if_neg h, if_neg h, p _ 3 _ _ _ (by omega)]
theorem hrA_k (A : Ab) (b l : Nat) : (∀ k i f, k ≠ 3 → k ≠ 4 → hrA A b l k i f = A k i f) ∧ hrA A b l 3 0 2 = A 3 0 2 + 1 ∧ hrA A b l 3 0 1 = (if A 3 0 1 < 250 then A 3 0 1 + 1 else A 3 0 1) ∧ ∀ j, j < 4 * A 3 0 1 → hrA A b l 4 0 j = A 4 0 j := by
  unfold hrA
  by_cases h : A 3 0 1 < 250
  · rw [if_pos h, if_pos h]
    refine ⟨fun k i f h3 h4 => ?_, rfl, rfl, fun j hj => ?_⟩
    · rw [aU_k h3, aU_k h4, aU_k h4, aU_k h4, aU_k h4, aU_k h3]
    · rw [aU_k (by decide), aU_f (by omega), aU_f (by omega), aU_f (by omega), aU_f (by omega), aU_k (by decide)]
  · rw [if_neg h, if_neg h]
    exact ⟨fun k i f h3 h4 => aU_k h3, rfl, rfl, fun j hj => aU_k (by decide)⟩
theorem Wf.hr {A : Ab} {ns nb T b l : Nat} (h : Wf A ns nb T) (hb : b < nb) : Wf (hrA A b l) ns nb T := by
  obtain ⟨h1, h2, h3, h4, h5, h6, h7, h8, ⟨s1, s2⟩, h10⟩ := h
  unfold hrA
  by_cases hk : A 3 0 1 < 250
  · rw [if_pos hk]
    refine ⟨h1, h2, h3, h4, h5, h6, h7, h8, ⟨(show A 3 0 1 + 1 ≤ 250 by omega), fun j hj => ?_⟩, h10⟩
    have hj : j < A 3 0 1 + 1 := hj
    have hn : A 8 b l ≤ 87 := h7 b l
    have hA : ∀ x, aU (aU (aU (aU (aU (aU A 3 0 2 (A 3 0 2 + 1)) 4 0 (4 * A 3 0 1) (A 0 0 6)) 4 0 (4 * A 3 0 1 + 1) b) 4 0 (4 * A 3 0 1 + 2) l) 4 0 (4 * A 3 0 1 + 3) (A 8 b l)) 3 0 1 (A 3 0 1 + 1) 4 0 x = if x = 4 * A 3 0 1 + 3 then A 8 b l else if x = 4 * A 3 0 1 + 2 then l else if x = 4 * A 3 0 1 + 1 then b else if x = 4 * A 3 0 1 then A 0 0 6 else A 4 0 x := fun x => by simp [aU_eq]
    rw [hA, hA]
    by_cases q : j = A 3 0 1
    · rw [if_neg (by omega), if_neg (by omega), if_pos (by omega), if_pos (by omega)]
      exact ⟨hb, hn⟩
    · rw [if_neg (by omega), if_neg (by omega), if_neg (by omega), if_neg (by omega), if_neg (by omega), if_neg (by omega), if_neg (by omega), if_neg (by omega)]
      exact s2 j (by omega)
  · rw [if_neg hk]
    exact ⟨h1, h2, h3, h4, h5, h6, h7, h8, ⟨s1, s2⟩, h10⟩
theorem Wf.s12 {A : Ab} {ns nb T b v : Nat} (h : Wf A ns nb T) : Wf (aU A 6 b 12 v) ns nb T := by
  obtain ⟨h1, h2, h3, h4, h5, h6, h7, h8, h9, h10⟩ := h
  refine ⟨h1, h2, h3, h4, fun j hj => ?_, ⟨h6.1, h6.2.1, fun j hj => ?_⟩, h7, ⟨h8.1, h8.2.1, fun j hj c hc => ?_⟩, h9, h10⟩
  · simpa [aU_eq] using h5 j hj
  · have := h6.2.2 j hj
    rw [aU_f (by decide)]
    exact this
  · have := h8.2.2 j hj c hc
    rw [aU_f (by decide)]
    exact this
theorem Wf.gn {A : Ab} {ns nb T b v : Nat} (h : Wf A ns nb T) (hv : v ≤ comeA A b) : Wf (aU A 6 b 11 v) ns nb T := by
  obtain ⟨h1, h2, h3, h4, h5, h6, h7, h8, h9, h10⟩ := h
  refine ⟨h1, h2, h3, h4, fun j hj => ?_, ⟨h6.1, h6.2.1, fun j hj => ?_⟩, h7, ⟨h8.1, h8.2.1, fun j hj c hc => ?_⟩, h9, h10⟩
  · obtain ⟨a1, a2, a3, a4, a5, a6, a7, a8, a9, a10, a11, a12⟩ := h5 j hj
    have e : ∀ f, f ≠ 11 → aU A 6 b 11 v 6 j f = A 6 j f := fun f hf => aU_f hf
    have e5 : ∀ i, aU A 6 b 11 v 5 i 2 = A 5 i 2 := fun i => aU_k (by decide)
    rw [e 0 (by decide), e 1 (by decide), e 2 (by decide), e 3 (by decide), e 4 (by decide), e 8 (by decide), e 9 (by decide), e 10 (by decide), e5]
    refine ⟨a1, a2, a3, a4, a5, a6, a7, a8, a9, a10, a11, ?_⟩
    rw [aU_eq]
    by_cases q : j = b
    · rw [if_pos ⟨rfl, q, rfl⟩, q]
      exact hv
    · rw [if_neg (fun z => q z.2.1)]
      exact a12
  · have := h6.2.2 j hj
    rw [aU_f (by decide)]
    exact this
  · have := h8.2.2 j hj c hc
    rw [aU_f (by decide)]
    exact this
theorem Wf.spd {A : Ab} {ns nb T i v : Nat} (h : Wf A ns nb T) (hi : i < ns) : Wf (aU A 5 i 3 v) ns nb T := by
  obtain ⟨h1, h2, h3, ⟨h4, h4'⟩, h5, h6, h7, h8, h9, h10⟩ := h
  refine ⟨h1, h2, h3, ⟨fun j hj => ?_, fun j hj f => ?_⟩, fun b hb => ?_, h6, h7, h8, h9, h10⟩
  · simpa [aU_eq] using h4 j hj
  · rw [aU_eq, if_neg (by omega)]; exact h4' j hj f
  · simpa [aU_eq] using h5 b hb
theorem come_mono {a b c p n q : Nat} (h : a ≤ b) : (a - c) * p * n / q ≤ (b - c) * p * n / q := Nat.div_le_div_right (Nat.mul_le_mul_right _ (Nat.mul_le_mul_right _ (Nat.sub_le_sub_right h _)))
theorem Wf.sh {A : Ab} {ns nb T i v : Nat} (h : Wf A ns nb T) (hi : i < ns) (hv : A 5 i 2 ≤ v) (hv2 : v ≤ 400 * A 0 0 6) : Wf (aU A 5 i 2 v) ns nb T := by
  obtain ⟨h1, h2, h3, ⟨h4, h4'⟩, h5, h6, h7, h8, h9, h10⟩ := h
  refine ⟨h1, h2, h3, ⟨fun j hj => ?_, fun j hj f => ?_⟩, fun b hb => ?_, h6, h7, h8, h9, h10⟩
  · obtain ⟨a1, a2, a3, a4, a5⟩ := h4 j hj
    have e : ∀ f, f ≠ 2 → aU A 5 i 2 v 5 j f = A 5 j f := fun f hf => aU_f hf
    rw [e 0 (by decide), e 1 (by decide), e 4 (by decide)]
    refine ⟨a1, a2, a3, ?_, a5⟩
    show aU A 5 i 2 v 5 j 2 ≤ 400 * A 0 0 6
    rw [aU_eq]
    split
    · exact hv2
    · exact a4
  · rw [aU_eq, if_neg (by omega)]; exact h4' j hj f
  · obtain ⟨a1, a2, a3, a4, a5, a6, a7, a8, a9, a10, a11, a12⟩ := h5 b hb
    have hle : A 5 (A 6 b 0) 2 ≤ aU A 5 i 2 v 5 (A 6 b 0) 2 := by
      rw [aU_eq]
      split
      · next q => rw [q.2.1]; exact hv
      · exact Nat.le_refl _
    exact ⟨a1, a2, a3, a4, a5, a6, a7, a8, a9, a10, Nat.le_trans a11 hle, Nat.le_trans a12 (come_mono hle)⟩
theorem Wf.tk {A : Ab} {ns nb T v : Nat} (h : Wf A ns nb T) (hv : A 0 0 6 ≤ v) (hv2 : v ≤ 500 * T) : Wf (aU A 0 0 6 v) ns nb T := by
  obtain ⟨h1, h2, h3, ⟨h4, h4'⟩, h5, h6, h7, h8, h9, h10⟩ := h
  refine ⟨h1, h2, hv2, ⟨fun j hj => ?_, h4'⟩, h5, h6, h7, h8, h9, h10⟩
  obtain ⟨a1, a2, a3, a4, a5⟩ := h4 j hj
  refine ⟨a1, a2, a3, ?_, a5⟩
  show A 5 j 2 ≤ 400 * v
  omega
/-- the songs go on -/
def kSg (A A' : Ab) : Prop := A 3 0 2 ≤ A' 3 0 2 ∧ A 3 0 1 ≤ A' 3 0 1 ∧ ∀ j, j < 4 * A 3 0 1 → A' 4 0 j = A 4 0 j
theorem kSg.rf {A : Ab} : kSg A A := ⟨Nat.le_refl _, Nat.le_refl _, fun _ _ => rfl⟩
theorem kSg.tr {a b c : Ab} (h : kSg a b) (h2 : kSg b c) : kSg a c := ⟨Nat.le_trans h.1 h2.1, Nat.le_trans h.2.1 h2.2.1, fun j hj => (h2.2.2 j (by have := h.2.1; omega)).trans (h.2.2 j hj)⟩
/-- what a note leaves; a turn; a spring's going; all of them -/
def kpt (A A' : Ab) : Prop := (∀ k i f, k ≠ 3 → k ≠ 4 → ¬ (k = 5 ∧ f = 1) → ¬ (k = 6 ∧ f = 12) → A' k i f = A k i f) ∧ kSg A A'
def kpg (A A' : Ab) : Prop := (∀ k i f, k ≠ 3 → k ≠ 4 → ¬ (k = 5 ∧ f = 1) → ¬ (k = 6 ∧ (f = 11 ∨ f = 12)) → A' k i f = A k i f) ∧ kSg A A'
def ksh (s : Nat) (A A' : Ab) : Prop := (∀ k i f, k ≠ 3 → k ≠ 4 → ¬ (k = 5 ∧ (f = 1 ∨ i = s ∧ (f = 2 ∨ f = 3))) → ¬ (k = 6 ∧ (f = 11 ∨ f = 12)) → A' k i f = A k i f) ∧ kSg A A'
def ktk (A A' : Ab) : Prop := (∀ k i f, k ≠ 3 → k ≠ 4 → ¬ (k = 5 ∧ (f = 1 ∨ f = 2 ∨ f = 3)) → ¬ (k = 6 ∧ (f = 11 ∨ f = 12)) → A' k i f = A k i f) ∧ kSg A A'
theorem kpt.rf {A : Ab} : kpt A A := ⟨fun _ _ _ _ _ _ _ => rfl, kSg.rf⟩
theorem kpg.rf {A : Ab} : kpg A A := ⟨fun _ _ _ _ _ _ _ => rfl, kSg.rf⟩
theorem ktk.rf {A : Ab} : ktk A A := ⟨fun _ _ _ _ _ _ _ => rfl, kSg.rf⟩
theorem kpt.tr {a b c : Ab} (h : kpt a b) (h2 : kpt b c) : kpt a c := ⟨fun k i f q1 q2 q3 q4 => (h2.1 k i f q1 q2 q3 q4).trans (h.1 k i f q1 q2 q3 q4), h.2.tr h2.2⟩
theorem kpg.tr {a b c : Ab} (h : kpg a b) (h2 : kpg b c) : kpg a c := ⟨fun k i f q1 q2 q3 q4 => (h2.1 k i f q1 q2 q3 q4).trans (h.1 k i f q1 q2 q3 q4), h.2.tr h2.2⟩
theorem ktk.tr {a b c : Ab} (h : ktk a b) (h2 : ktk b c) : ktk a c := ⟨fun k i f q1 q2 q3 q4 => (h2.1 k i f q1 q2 q3 q4).trans (h.1 k i f q1 q2 q3 q4), h.2.tr h2.2⟩
theorem kpt.g {a b : Ab} (h : kpt a b) : kpg a b := ⟨fun k i f q1 q2 q3 q4 => h.1 k i f q1 q2 q3 (by omega), h.2⟩
theorem ksh.k {s : Nat} {a b : Ab} (h : ksh s a b) : ktk a b := ⟨fun k i f q1 q2 q3 q4 => h.1 k i f q1 q2 (by omega) q4, h.2⟩
theorem note_ok {A : Ab} {ns nb T b l : Nat} (h : Wf A ns nb T) (hb : b < nb) : Wf (noteA A b l) ns nb T ∧ kpt A (noteA A b l) ∧ noteA A b l 6 b 12 = A 6 b 12 + 1 ∧ noteA A b l 3 0 2 = A 3 0 2 + 1 := by
  have w0 := (h.2.2.2.2.1 b hb).1
  have hh := (h.2.2.2.1.1 _ w0).2.2.1
  obtain ⟨k1, k2, k3, k4⟩ := hrA_k (aU (payA A (A 6 b 0)) 6 b 12 (A 6 b 12 + 1)) b l
  refine ⟨((h.held w0 (v := A 5 (A 6 b 0) 1 - min 10 (A 5 (A 6 b 0) 1)) (by omega)).s12).hr hb, ⟨fun k i f q3 q4 q5 q6 => ?_, ?_, ?_, k4⟩, ?_, k2⟩
  · unfold noteA
    rw [k1 k i f q3 q4, aU_eq, if_neg (by omega)]
    unfold payA
    rw [aU_eq, if_neg (by omega)]
  · show A 3 0 2 ≤ hrA _ b l 3 0 2
    rw [k2]
    exact Nat.le_succ (A 3 0 2)
  · show A 3 0 1 ≤ hrA _ b l 3 0 1
    rw [k3]
    show A 3 0 1 ≤ if A 3 0 1 < 250 then A 3 0 1 + 1 else A 3 0 1
    split <;> omega
  · unfold noteA
    rw [k1 6 b 12 (by decide) (by decide), aU_same]
theorem lev_ok {ns nb T b v : Nat} (hb : b < nb) : ∀ (m l : Nat) (A : Ab), Wf A ns nb T → Wf (levA b v m l A) ns nb T ∧ kpt A (levA b v m l A) ∧ levA b v m l A 6 b 12 + A 3 0 2 = A 6 b 12 + levA b v m l A 3 0 2 := by
  intro m
  induction m with
  | zero => intro l A h; exact ⟨h, kpt.rf, rfl⟩
  | succ m ih =>
    intro l A h
    rw [levA]
    by_cases q : v / 2 ^ l % 2 = 1
    · rw [if_pos q]
      obtain ⟨n1, n2, n3, n4⟩ := note_ok (l := l) h hb
      obtain ⟨i1, i2, i3⟩ := ih (l + 1) _ n1
      exact ⟨i1, n2.tr i2, by omega⟩
    · rw [if_neg q]
      exact ih (l + 1) A h
theorem bar_ok {ns nb T b hi : Nat} (hb : b < nb) : ∀ (m : Nat) (A : Ab), Wf A ns nb T → Wf (barA b hi m A) ns nb T ∧ kpt A (barA b hi m A) := by
  intro m
  induction m with
  | zero => intro A h; exact ⟨h, kpt.rf⟩
  | succ m ih =>
    intro A h
    rw [barA]
    obtain ⟨n1, n2, -⟩ := lev_ok (v := A 7 b ((hi - m) % A 6 b 2)) hb 6 0 A h
    obtain ⟨i1, i2⟩ := ih _ n1
    exact ⟨i1, n2.tr i2⟩
theorem kpg_gn {A : Ab} {b v : Nat} : kpg A (aU A 6 b 11 v) := ⟨fun k i f q1 q2 q3 q4 => by rw [aU_eq, if_neg (by omega)], kSg.rf⟩
theorem turn_ok {A : Ab} {ns nb T b : Nat} (h : Wf A ns nb T) (hb : b < nb) : Wf (turnA A b) ns nb T ∧ kpg A (turnA A b) := by
  unfold turnA
  obtain ⟨n1, n2⟩ := bar_ok (hi := comeA A b) hb (min (comeA A b - A 6 b 11) (A 6 b 2)) _ (h.gn (b := b) (Nat.le_refl (comeA A b)))
  exact ⟨n1, kpg_gn.tr n2.g⟩
theorem birds_ok {ns nb T s : Nat} : ∀ (m b : Nat) (A : Ab), b + m ≤ nb → Wf A ns nb T → Wf (birdsA s m b A) ns nb T ∧ kpg A (birdsA s m b A) := by
  intro m
  induction m with
  | zero => intro b A _ h; exact ⟨h, kpg.rf⟩
  | succ m ih =>
    intro b A hb h
    rw [birdsA]
    by_cases q : drA A s b = true
    · rw [if_pos q]
      obtain ⟨n1, n2⟩ := turn_ok h (b := b) (by omega)
      obtain ⟨i1, i2⟩ := ih (b + 1) _ (by omega) n1
      exact ⟨i1, n2.tr i2⟩
    · rw [if_neg q]
      exact ih (b + 1) A (by omega) h
theorem speed_le (A : Ab) (nb s : Nat) : speedA A nb s ≤ 400 ∧ speedA A nb s ≤ A 5 s 1 ∧ (A 5 s 1 ≠ 0 → 1 ≤ speedA A nb s) := by
  unfold speedA
  refine ⟨by omega, by omega, fun h => by omega⟩
theorem move_ok {A : Ab} {ns nb T s v : Nat} (h : Wf A ns nb T) (hs : s < ns) (hv : v ≤ 400) (hs2 : A 5 s 2 + 400 ≤ 400 * A 0 0 6) : Wf (moveA A s v) ns nb T ∧ ksh s A (moveA A s v) := by
  have hh := (h.2.2.2.1.1 _ hs).2.2.1
  have e2 : aU A 5 s 3 v 5 s 2 = A 5 s 2 := aU_f (by decide)
  refine ⟨((h.spd hs).sh hs (v := A 5 s 2 + v) (by rw [e2]; omega) (by show A 5 s 2 + v ≤ 400 * A 0 0 6; omega)).held hs (by omega), ⟨fun k i f q1 q2 q3 q4 => ?_, kSg.rf⟩⟩
  unfold moveA
  rw [aU_eq, if_neg (by omega), aU_eq, if_neg (by omega), aU_eq, if_neg (by omega)]
theorem shaft_ok {A : Ab} {ns nb T s : Nat} (h : Wf A ns nb T) (hs : s < ns) (hs2 : A 5 s 2 + 400 ≤ 400 * A 0 0 6) : Wf (shaftA A nb s) ns nb T ∧ ksh s A (shaftA A nb s) := by
  unfold shaftA
  by_cases q : A 5 s 4 = 0 ∧ A 5 s 1 ≠ 0
  · rw [if_pos q]
    obtain ⟨m1, m2⟩ := move_ok h hs (speed_le A nb s).1 hs2
    obtain ⟨i1, i2⟩ := birds_ok (s := s) nb 0 _ (by omega) m1
    exact ⟨i1, ⟨fun k i f q1 q2 q3 q4 => (i2.1 k i f q1 q2 (by omega) q4).trans (m2.1 k i f q1 q2 q3 q4), m2.2.tr i2.2⟩⟩
  · rw [if_neg q]
    exact ⟨h.spd hs, ⟨fun k i f q1 q2 q3 q4 => by rw [aU_eq, if_neg (by omega)], kSg.rf⟩⟩
theorem springs_ok {ns nb T : Nat} : ∀ (m s : Nat) (A : Ab), s + m = ns → Wf A ns nb T → (∀ i, s ≤ i → i < ns → A 5 i 2 + 400 ≤ 400 * A 0 0 6) → Wf (springsA nb m s A) ns nb T ∧ ktk A (springsA nb m s A) := by
  intro m
  induction m with
  | zero => intro s A _ h _; exact ⟨h, ktk.rf⟩
  | succ m ih =>
    intro s A hm h hs
    rw [springsA]
    obtain ⟨n1, n2⟩ := shaft_ok h (s := s) (by omega) (hs s (Nat.le_refl _) (by omega))
    obtain ⟨i1, i2⟩ := ih (s + 1) _ (by omega) n1 (fun i h1 h2 => by
      rw [n2.1 5 i 2 (by decide) (by decide) (by omega) (by omega), n2.1 0 0 6 (by decide) (by decide) (by omega) (by omega)]
      exact hs i (by omega) h2)
    exact ⟨i1, n2.k.tr i2⟩
theorem share_ok {A : Ab} {ns nb T a b : Nat} (h : Wf A ns nb T) (ha : a < ns) (hb : b < ns) : Wf (shareA A a b) ns nb T ∧ ∀ k i f, ¬ (k = 5 ∧ f = 1) → shareA A a b k i f = A k i f := by
  have h1 := (h.2.2.2.1.1 _ ha).2.2.1
  have h2 := (h.2.2.2.1.1 _ hb).2.2.1
  unfold shareA
  by_cases q : A 5 b 1 ≤ A 5 a 1
  · rw [if_pos q]
    refine ⟨(h.held ha (by omega)).held hb (by omega), fun k i f hk => ?_⟩
    rw [aU_eq, if_neg (by omega), aU_eq, if_neg (by omega)]
  · rw [if_neg q]
    refine ⟨(h.held ha (by omega)).held hb (by omega), fun k i f hk => ?_⟩
    rw [aU_eq, if_neg (by omega), aU_eq, if_neg (by omega)]
theorem shB_ok {ns nb T a : Nat} : ∀ (m b : Nat) (A : Ab), Wf A ns nb T → Wf (shBA ns a m b A) ns nb T ∧ ∀ k i f, ¬ (k = 5 ∧ f = 1) → shBA ns a m b A k i f = A k i f := by
  intro m
  induction m with
  | zero => intro b A h; exact ⟨h, fun _ _ _ _ => rfl⟩
  | succ m ih =>
    intro b A h
    rw [shBA]
    by_cases q : a < ns ∧ b < ns ∧ A 23 a b = 1
    · rw [if_pos q]
      obtain ⟨n1, n2⟩ := share_ok h q.1 q.2.1
      obtain ⟨i1, i2⟩ := ih (b + 1) _ n1
      exact ⟨i1, fun k i f hk => (i2 k i f hk).trans (n2 k i f hk)⟩
    · rw [if_neg q]
      exact ih (b + 1) A h
theorem shA_ok {ns nb T : Nat} : ∀ (m a : Nat) (A : Ab), Wf A ns nb T → Wf (shAA ns m a A) ns nb T ∧ ∀ k i f, ¬ (k = 5 ∧ f = 1) → shAA ns m a A k i f = A k i f := by
  intro m
  induction m with
  | zero => intro b A h; exact ⟨h, fun _ _ _ _ => rfl⟩
  | succ m ih =>
    intro a A h
    rw [shAA]
    obtain ⟨n1, n2⟩ := shB_ok (a := a) (4 - (a + 1)) (a + 1) A h
    obtain ⟨i1, i2⟩ := ih (a + 1) _ n1
    exact ⟨i1, fun k i f hk => (i2 k i f hk).trans (n2 k i f hk)⟩
theorem shB_out {ns a : Nat} : ∀ (m b : Nat) (A : Ab), ns ≤ b → shBA ns a m b A = A := by
  intro m
  induction m with
  | zero => intro b A _; rfl
  | succ m ih =>
    intro b A hb
    rw [shBA, if_neg (by omega)]
    exact ih (b + 1) A (by omega)
theorem shA_out {ns : Nat} : ∀ (m a : Nat) (A : Ab), ns ≤ a → shAA ns m a A = A := by
  intro m
  induction m with
  | zero => intro b A _; rfl
  | succ m ih =>
    intro a A ha
    rw [shAA, shB_out _ _ _ (by omega)]
    exact ih (a + 1) A (by omega)
/-- what a tick leaves -/
def kal (A A' : Ab) : Prop := (∀ k i f, k ≠ 0 → k ≠ 3 → k ≠ 4 → ¬ (k = 5 ∧ (f = 1 ∨ f = 2 ∨ f = 3)) → ¬ (k = 6 ∧ (f = 11 ∨ f = 12)) → A' k i f = A k i f) ∧ kSg A A'
theorem kal.rf {A : Ab} : kal A A := ⟨fun _ _ _ _ _ _ _ _ => rfl, kSg.rf⟩
theorem kal.tr {a b c : Ab} (h : kal a b) (h2 : kal b c) : kal a c := ⟨fun k i f q0 q1 q2 q3 q4 => (h2.1 k i f q0 q1 q2 q3 q4).trans (h.1 k i f q0 q1 q2 q3 q4), h.2.tr h2.2⟩
theorem tick_in {A : Ab} {ns nb T : Nat} (h : Wf A ns nb T) (ht : A 0 0 6 < 500 * T) : Wf (shAA ns 4 0 (aU A 0 0 6 (A 0 0 6 + 1))) ns nb T ∧ (∀ i, 0 ≤ i → i < ns → shAA ns 4 0 (aU A 0 0 6 (A 0 0 6 + 1)) 5 i 2 + 400 ≤ 400 * shAA ns 4 0 (aU A 0 0 6 (A 0 0 6 + 1)) 0 0 6) ∧ shAA ns 4 0 (aU A 0 0 6 (A 0 0 6 + 1)) 0 0 6 = A 0 0 6 + 1 := by
  obtain ⟨n1, n2⟩ := shA_ok (ns := ns) 4 0 _ (h.tk (v := A 0 0 6 + 1) (by omega) (by omega))
  have e6 : shAA ns 4 0 (aU A 0 0 6 (A 0 0 6 + 1)) 0 0 6 = A 0 0 6 + 1 := n2 0 0 6 (by omega)
  refine ⟨n1, fun i _ hi => ?_, e6⟩
  have e2 : shAA ns 4 0 (aU A 0 0 6 (A 0 0 6 + 1)) 5 i 2 = A 5 i 2 := n2 5 i 2 (by omega)
  have := (h.2.2.2.1.1 i hi).2.2.2.1
  rw [e2, e6]
  omega
theorem tick_ok {A : Ab} {ns nb T : Nat} (h : Wf A ns nb T) (ht : A 0 0 6 < 500 * T) : Wf (tickA ns nb A) ns nb T ∧ kal A (tickA ns nb A) ∧ tickA ns nb A 0 0 6 = A 0 0 6 + 1 := by
  obtain ⟨n1, n2, n3⟩ := tick_in h ht
  obtain ⟨i1, i2⟩ := springs_ok ns 0 _ (by omega) n1 n2
  have hsh := (shA_ok (ns := ns) 4 0 _ (h.tk (v := A 0 0 6 + 1) (by omega) (by omega))).2
  have e2 : shAA ns 4 0 (aU A 0 0 6 (A 0 0 6 + 1)) 3 0 2 = A 3 0 2 := hsh 3 0 2 (by omega)
  have e1 : shAA ns 4 0 (aU A 0 0 6 (A 0 0 6 + 1)) 3 0 1 = A 3 0 1 := hsh 3 0 1 (by omega)
  have e4 : ∀ j, shAA ns 4 0 (aU A 0 0 6 (A 0 0 6 + 1)) 4 0 j = A 4 0 j := fun j => hsh 4 0 j (by omega)
  refine ⟨i1, ⟨fun k i f q0 q1 q2 q3 q4 => ?_, ?_, ?_, fun j hj => ?_⟩, ?_⟩
  · unfold tickA
    rw [i2.1 k i f q1 q2 q3 q4, hsh k i f (by omega), aU_k q0]
  · rw [← e2]
    exact i2.2.1
  · rw [← e1]
    exact i2.2.2.1
  · rw [← e4]
    exact i2.2.2.2 j (by rw [e1]; exact hj)
  · unfold tickA
    rw [i2.1 0 0 6 (by decide) (by decide) (by omega) (by omega)]
    exact n3
theorem run_in {ns nb T : Nat} : ∀ (m : Nat) (A : Ab), Wf A ns nb T → A 0 0 6 + m ≤ 500 * T → Wf (runA ns nb m A) ns nb T ∧ kal A (runA ns nb m A) ∧ runA ns nb m A 0 0 6 = A 0 0 6 + m := by
  intro m
  induction m with
  | zero => intro A h _; exact ⟨h, kal.rf, rfl⟩
  | succ m ih =>
    intro A h ht
    rw [runA]
    obtain ⟨n1, n2, n3⟩ := tick_ok h (by omega)
    obtain ⟨i1, i2, i3⟩ := ih _ n1 (by omega)
    exact ⟨i1, n2.tr i2, by omega⟩
