/-! WIND, BRAKE -/
theorem Cm.sp {A : Ab} {ns nb : Nat} {σ : Sg} (h : Cm A ns nb σ) {i f v : Nat} (hf : f = 1 ∨ f = 3 ∨ f = 4) : Cm (aU A 5 i f v) ns nb (sI σ 5 i f (nI v)) := by
  obtain ⟨h1, h2, h3, h4, h5, h6, h7⟩ := h
  refine ⟨fun j hj => ?_, h2, h3, h4, h5, h6, h7⟩
  obtain ⟨a0, a1, a2, a3, a4⟩ := h1 j hj
  by_cases hji : j = i
  · subst hji
    rcases hf with rfl | rfl | rfl <;> simp [sI_eq, sI_2, aU_eq, a0, a1, a2, a3, a4]
  · simp only [sI_eq, sI_2, aU_eq, hji, false_and, and_false, if_false]
    exact ⟨a0, a1, a2, a3, a4⟩
theorem frC_I {σ : Sg} {k i f : Nat} {v : Int32} (h : k < 13) : frC σ (sI σ k i f v) := fun k' i' f' hk => ⟨if_neg (by omega), rfl⟩
theorem frC_L {σ : Sg} {k i f : Nat} {v : Int64} (h : k < 13) : frC σ (sL σ k i f v) := fun k' i' f' hk => ⟨rfl, if_neg (by omega)⟩
theorem Wf.held {A : Ab} {ns nb T i v : Nat} (h : Wf A ns nb T) (hi : i < ns) (hv : v ≤ 200000) : Wf (aU A 5 i 1 v) ns nb T := by
  obtain ⟨h1, h2, h3, ⟨h4, h4'⟩, h5, h6, h7, h8, h9, h10⟩ := h
  refine ⟨h1, h2, h3, ⟨fun j hj => ?_, fun j hj f => ?_⟩, fun b hb => ?_, h6, h7, h8, h9, h10⟩
  · obtain ⟨b1, b2, b3, b4, b5⟩ := h4 j hj
    refine ⟨by simpa [aU_eq] using b1, by simpa [aU_eq] using b2, ?_, by simpa [aU_eq] using b4, by simpa [aU_eq] using b5⟩
    rw [aU_eq]
    by_cases q : 5 = 5 ∧ j = i ∧ 1 = 1
    · rw [if_pos q]; exact hv
    · rw [if_neg q]; exact b3
  · rw [aU_eq, if_neg (by omega)]; exact h4' j hj f
  · have := h5 b hb
    simp only [aU_eq, show ¬ ((2 : Nat) = 1) by decide, show ¬ ((6 : Nat) = 5) by decide, and_false, false_and, if_false]
    exact this
theorem n10 : ¬ ((1 : Int32) = 0) := by decide
theorem Wf.up {A : Ab} {ns nb T T' : Nat} (h : Wf A ns nb T) (hT : T ≤ T') : Wf A ns nb T' := by
  obtain ⟨h1, h2, h3, h4⟩ := h
  exact ⟨h1, h2, by omega, h4⟩
/-! BRAKE, ADDSPRING -/
theorem Cm.addS {A : Ab} {ns nb : Nat} {σ : Sg} (h : Cm A ns nb σ) (w : ∀ f, A 5 ns f = 0) {v : Nat} : Cm (aU A 5 ns 0 v) (ns + 1) nb (sI (sgS σ ns (nI v)) 0 0 3 (nI (ns + 1))) := by
  obtain ⟨h1, h2, h3, h4, h5, h6, h7⟩ := h
  refine ⟨fun j hj => ?_, h2, h3, h4, h5, h6, rfl, h7.2⟩
  by_cases hji : j = ns
  · subst hji
    have e : ∀ f, (sI (sgS σ j (nI v)) 0 0 3 (nI (j + 1))).1 5 j f = if f = 0 then nI v else 0 := fun f => if_pos ⟨rfl, rfl⟩
    have e2 : ∀ f, (sI (sgS σ j (nI v)) 0 0 3 (nI (j + 1))).2 5 j f = 0 := fun f => if_pos ⟨rfl, rfl⟩
    simp only [e, e2, aU_eq, w]
    exact ⟨rfl, rfl, rfl, rfl, rfl⟩
  · obtain ⟨a0, a1, a2, a3, a4⟩ := h1 j (by omega)
    have e : ∀ f, (sI (sgS σ ns (nI v)) 0 0 3 (nI (ns + 1))).1 5 j f = σ.1 5 j f := fun f => if_neg (by omega)
    have e2 : ∀ f, (sI (sgS σ ns (nI v)) 0 0 3 (nI (ns + 1))).2 5 j f = σ.2 5 j f := fun f => if_neg (by omega)
    simp only [e, e2, aU_eq, hji, false_and, and_false, if_false]
    exact ⟨a0, a1, a2, a3, a4⟩
theorem Wf.addS {A : Ab} {ns nb T v : Nat} (h : Wf A ns nb T) (h4 : ns < 4) (hv : 1 ≤ v) (hv2 : v ≤ 50) : Wf (aU A 5 ns 0 v) (ns + 1) nb T := by
  obtain ⟨h1, h2, h3, ⟨h4, h4'⟩, h5, h6, h7, h8, h9, h10⟩ := h
  refine ⟨by omega, h2, h3, ⟨fun j hj => ?_, fun j hj f => ?_⟩, fun b hb => ?_, h6, h7, h8, h9, h10⟩
  · by_cases hji : j = ns
    · subst hji
      have w := h4' j (Nat.le_refl _)
      refine ⟨?_, ?_, ?_, ?_, ?_⟩ <;> simp [aU_eq, w] <;> omega
    · have := h4 j (by omega)
      simpa [aU_eq, hji] using this
  · rw [aU_eq, if_neg (by omega)]; exact h4' j (by omega) f
  · have := h5 b hb
    have hne : ¬ (2 = 0) := by decide
    simp only [aU_eq, show ¬ ((2 : Nat) = 0) by decide, show ¬ ((6 : Nat) = 5) by decide, and_false, false_and, if_false]
    exact ⟨by omega, this.2⟩
/-! TUNE, SUNG, EMPTYSONGS -/
theorem at4 {ns nb k i j N : Nat} {σ : Sg} (hk : aln k = N) (hN : N < 2 ^ 31) (hj : j < N) : FX4_at ns nb σ k i (nI j) = some (σ.1 k i j, σ) := by
  unfold FX4_at
  rw [hk, if_neg (nI_pos (by omega)), if_neg (show ¬ (Int32.ofNat N ≤ nI j) from nI_ge hj hN), if_neg (nI_in hj hN), nI_clamp (by omega)]
theorem put4 {ns nb k i j N : Nat} {σ : Sg} {v : Int32} (hk : aln k = N) (hN : N < 2 ^ 31) (hj : j < N) : FX4_put ns nb σ k i (nI j) v = some (sI σ k i j v) := by
  unfold FX4_put
  rw [hk, if_neg (nI_pos (by omega)), if_neg (show ¬ (Int32.ofNat N ≤ nI j) from nI_ge hj hN), if_neg (nI_in hj hN), nI_clamp (by omega)]
theorem Cm.nt {A : Ab} {ns nb : Nat} {σ : Sg} (h : Cm A ns nb σ) {b x v : Nat} : Cm (aU A 8 b x v) ns nb (sI σ 8 b x (nI v)) := by
  obtain ⟨h1, h2, h3, h4, h5, h6, h7⟩ := h
  refine ⟨h1, h2, h3, fun j hj y hy => ?_, h5, h6, h7⟩
  rw [sI_eq, aU_eq]
  by_cases q : 8 = 8 ∧ j = b ∧ y = x
  · rw [if_pos q, if_pos q]
  · rw [if_neg q, if_neg q]; exact h4 j hj y hy
theorem Wf.nt {A : Ab} {ns nb T b x v : Nat} (h : Wf A ns nb T) (hv : v ≤ 87) : Wf (aU A 8 b x v) ns nb T := by
  obtain ⟨h1, h2, h3, h4, h5, h6, h7, h8, h9, h10⟩ := h
  refine ⟨h1, h2, h3, h4, h5, h6, fun j y => ?_, h8, h9, h10⟩
  rw [aU_eq]
  by_cases q : 8 = 8 ∧ j = b ∧ y = x
  · rw [if_pos q]; exact hv
  · rw [if_neg q]; exact h7 j y
/-- no songs -/
def emA (A : Ab) : Ab := aU (aU A 3 0 1 0) 3 0 2 0
/-! BIRD -/
theorem lN_ne0 {n : Nat} (h0 : 0 < n) (h : n < 2 ^ 31) : ¬ lN n = 0 := fun q => absurd ((lN_eq (b := 0) h (by decide)).mp q) (by omega)
theorem goneB {A : Ab} {ns nb T b : Nat} (h : Wf A ns nb T) (hT : T ≤ 516) (hb : b < nb) : A 6 b 11 < 1000000000 ∧ A 6 b 10 < 1000000000 ∧ A 5 (A 6 b 0) 2 ≤ 104000000 := by
  obtain ⟨h1, h2, h3, ⟨h4, -⟩, h5, -⟩ := h
  obtain ⟨b0, b1, b2, b3, b4, b5, b6, b7, b8, b9, b10, b11⟩ := h5 b hb
  obtain ⟨-, -, -, s4, -⟩ := h4 _ b0
  have hs : A 5 (A 6 b 0) 2 ≤ 104000000 := by omega
  have m1 : (A 5 (A 6 b 0) 2 - A 6 b 10) * A 6 b 3 * A 6 b 2 ≤ 104000000 * 12 * 96 := Nat.mul_le_mul (Nat.mul_le_mul (by omega) b5) b3
  have m2 : (A 5 (A 6 b 0) 2 - A 6 b 10) * A 6 b 3 * A 6 b 2 / (1000 * A 6 b 4) ≤ 104000000 * 12 * 96 / 1000 := Nat.div_le_div m1 (by omega) (by decide)
  exact ⟨by omega, by omega, hs⟩
theorem plNow {A : Ab} {ns nb T b : Nat} {σ : Sg} (hC : Cm A ns nb σ) (h : Wf A ns nb T) (hT : T ≤ 516) (hb : b < nb) : FX0_placeNow ns nb σ b = some (nI (A 6 b 11 % A 6 b 2), σ) := by
  obtain ⟨g1, -, -⟩ := goneB h hT hb
  obtain ⟨b0, b1, b2, b3, -⟩ := h.2.2.2.2.1 b hb
  obtain ⟨-, -, c2, -, -, -, -, -, c11, -⟩ := hC.2.1 b hb
  unfold FX0_placeNow FX0_placeWhenGone
  rw [c2, c11, nI_l (by omega), if_neg (nI_nle (by omega) (by omega)), if_neg (lN_ne0 (by omega) (by omega)), pk_lRem (by omega) (by omega) (by omega), lN_i, Option.bind_some]
/-! HELD BY ALL, DOWN -/
theorem r1 (a : Nat) : nI a + 1 = nI (a + 1) := nI_1 a
theorem iO_in {n j : Nat} (h : j < n) : iO n j = some j := if_pos h
theorem iO_out {n j : Nat} (h : ¬ j < n) : iO n j = none := if_neg h
theorem held4 {A : Ab} {ns nb : Nat} {σ : Sg} (h4 : ns ≤ 4) (hC : cSp A σ ns) (w : ∀ i, ns ≤ i → ∀ f, A 5 i f = 0) : ∀ (m i acc fuel : Nat), i + m = 4 → m < fuel → LX4_heldByAll_13 ns nb fuel (nI acc) (nI i) σ = some (nI (acc + (fb_sm (fun i => A 5 i 1) 4 - fb_sm (fun i => A 5 i 1) i)), σ) := by
  intro m
  induction m with
  | zero =>
    intro i acc fuel hi hf
    obtain ⟨n, rfl⟩ : ∃ n, fuel = n + 1 := ⟨fuel - 1, by omega⟩
    have : i = 4 := by omega
    subst this
    rw [LX4_heldByAll_13, if_pos (show (4 : Int32) ≤ nI 4 by decide), Nat.sub_self, Nat.add_zero]
  | succ m ih =>
    intro i acc fuel hi hf
    obtain ⟨n, rfl⟩ : ∃ n, fuel = n + 1 := ⟨fuel - 1, by omega⟩
    have hp := fb_sm_part (fun i => A 5 i 1) (i := i) (n := 4) (by omega)
    have hs := fb_sm_succ (fun i => A 5 i 1) i
    rw [LX4_heldByAll_13, if_neg (show ¬ ((4 : Int32) ≤ nI i) from nI_ge (b := 4) (by omega) (by omega)), if_neg (nI_in (by omega) (by omega)), nI_clamp (by omega), r1]
    by_cases hn : i < ns
    · rw [iO_in hn, oc_s, if_pos hn, (hC i hn).2.1, nI_add, ih (i + 1) (acc + A 5 i 1) n (by omega) (by omega), hs]
      congr 2
      congr 1
      (try dsimp only at hp ⊢)
      omega
    · rw [iO_out hn, oc_n, ih (i + 1) acc n (by omega) (by omega), hs]
      have hw := w i (by omega) 1
      congr 2
      congr 1
      (try dsimp only at hp ⊢)
      omega
theorem heldC {A : Ab} {ns nb T : Nat} {σ : Sg} (hC : Cm A ns nb σ) (hW : Wf A ns nb T) : FX4_heldByAll ns nb σ = some (nI (fb_sm (fun i => A 5 i 1) 4), σ) := by
  have := held4 (nb := nb) hW.1 hC.1 hW.2.2.2.1.2 4 0 0 4100 (by decide) (by decide)
  unfold FX4_heldByAll
  rw [show (0 : Int32) = nI 0 from rfl, this, Option.bind_some, Nat.zero_add]
  rfl
theorem sm_more {f : Nat → Nat} {n : Nat} (h : ∀ i, n ≤ i → f i = 0) : ∀ m, fb_sm f (n + m) = fb_sm f n := by
  intro m
  induction m with
  | zero => rfl
  | succ m ih => rw [← Nat.add_assoc, fb_sm_succ, ih, h _ (by omega), Nat.add_zero]
/-! COUPLE, COUNT -/
def bcV (x : Int32) : Int32 := match FJ6_bitCount_0f7a4 0 0 sg0 x with
  | some z => z.1
  | none => 0
theorem bc_eq (ns nb : Nat) (σ : Sg) (x : Int32) : FJ6_bitCount_0f7a4 ns nb σ x = some (bcV x, σ) := rfl
def cp6 (a b c d e f : Nat) : Nat := a * 2 + b * 4 + c * 8 + d * 64 + e * 128 + f * 2048
theorem bc6 : ∀ a b c d e f : Fin 2, bcV (nI (cp6 a.val b.val c.val d.val e.val f.val)) = nI (a.val + b.val + c.val + d.val + e.val + f.val) := by decide +kernel
def cU (m x v i j c : Nat) : Nat := if i = m ∧ j = x then v else c
theorem cp_or : ∀ m x : Fin 4, m.val < x.val → ∀ a b c d e f : Fin 2, nI (cp6 a.val b.val c.val d.val e.val f.val) ||| ((1 : Int32) <<< ((nI m.val * 4 + nI x.val) &&& 31)) = nI (cp6 (cU m.val x.val 1 0 1 a.val) (cU m.val x.val 1 0 2 b.val) (cU m.val x.val 1 0 3 c.val) (cU m.val x.val 1 1 2 d.val) (cU m.val x.val 1 1 3 e.val) (cU m.val x.val 1 2 3 f.val)) := by decide +kernel
theorem cp_and : ∀ m x : Fin 4, m.val < x.val → ∀ a b c d e f : Fin 2, nI (cp6 a.val b.val c.val d.val e.val f.val) &&& (((1 : Int32) <<< ((nI m.val * 4 + nI x.val) &&& 31)) ^^^ (-1)) = nI (cp6 (cU m.val x.val 0 0 1 a.val) (cU m.val x.val 0 0 2 b.val) (cU m.val x.val 0 0 3 c.val) (cU m.val x.val 0 1 2 d.val) (cU m.val x.val 0 1 3 e.val) (cU m.val x.val 0 2 3 f.val)) := by decide +kernel
theorem cpA_6 (A : Ab) : cpA A = cp6 (A 23 0 1) (A 23 0 2) (A 23 0 3) (A 23 1 2) (A 23 1 3) (A 23 2 3) := rfl
theorem cpA_U (A : Ab) (m x v : Nat) : cpA (aU A 23 m x v) = cp6 (cU m x v 0 1 (A 23 0 1)) (cU m x v 0 2 (A 23 0 2)) (cU m x v 0 3 (A 23 0 3)) (cU m x v 1 2 (A 23 1 2)) (cU m x v 1 3 (A 23 1 3)) (cU m x v 2 3 (A 23 2 3)) := by
  unfold cpA cp6 cU
  simp only [aU_eq, true_and]
def prA (A : Ab) : Nat := A 23 0 1 + A 23 0 2 + A 23 0 3 + A 23 1 2 + A 23 1 3 + A 23 2 3
theorem bcA {A : Ab} (h : wCp A) : bcV (nI (cpA A)) = nI (prA A) := by
  have f : ∀ a b, A 23 a b < 2 := fun a b => by have := h a b; omega
  exact bc6 ⟨_, f 0 1⟩ ⟨_, f 0 2⟩ ⟨_, f 0 3⟩ ⟨_, f 1 2⟩ ⟨_, f 1 3⟩ ⟨_, f 2 3⟩
theorem orA {A : Ab} (h : wCp A) {m x : Nat} (hm : m < x) (hx : x < 4) : nI (cpA A) ||| ((1 : Int32) <<< ((nI m * 4 + nI x) &&& 31)) = nI (cpA (aU A 23 m x 1)) := by
  have f : ∀ a b, A 23 a b < 2 := fun a b => by have := h a b; omega
  rw [cpA_U]
  exact cp_or ⟨m, by omega⟩ ⟨x, hx⟩ hm ⟨_, f 0 1⟩ ⟨_, f 0 2⟩ ⟨_, f 0 3⟩ ⟨_, f 1 2⟩ ⟨_, f 1 3⟩ ⟨_, f 2 3⟩
theorem andA {A : Ab} (h : wCp A) {m x : Nat} (hm : m < x) (hx : x < 4) : nI (cpA A) &&& (((1 : Int32) <<< ((nI m * 4 + nI x) &&& 31)) ^^^ (-1)) = nI (cpA (aU A 23 m x 0)) := by
  have f : ∀ a b, A 23 a b < 2 := fun a b => by have := h a b; omega
  rw [cpA_U]
  exact cp_and ⟨m, by omega⟩ ⟨x, hx⟩ hm ⟨_, f 0 1⟩ ⟨_, f 0 2⟩ ⟨_, f 0 3⟩ ⟨_, f 1 2⟩ ⟨_, f 1 3⟩ ⟨_, f 2 3⟩
theorem countC {A : Ab} {ns nb T : Nat} {σ : Sg} (hC : Cm A ns nb σ) (hW : Wf A ns nb T) (l : Nat) (hl : l ≤ 5) : FX4_count ns nb σ (nI l) = some (.inr (nI (if l = 0 then A 0 0 6 else if l = 1 then ns else if l = 2 then nb else if l = 3 then prA A else if l = 4 then A 3 0 2 else fb_sm (fun i => A 5 i 1) 4)), σ) := by
  obtain ⟨p3, p4, p5, p6⟩ := hC.2.2.2.2.2.2
  unfold FX4_count
  rcases (show l = 0 ∨ l = 1 ∨ l = 2 ∨ l = 3 ∨ l = 4 ∨ l = 5 by omega) with rfl | rfl | rfl | rfl | rfl | rfl
  · rw [if_pos (show nI 0 = 0 from rfl), p6]; rfl
  · rw [if_neg (show ¬ nI 1 = 0 by decide), if_pos (show nI 1 = 1 from rfl), p3]; rfl
  · rw [if_neg (show ¬ nI 2 = 0 by decide), if_neg (show ¬ nI 2 = 1 by decide), if_pos (show nI 2 = 2 from rfl), p4]; rfl
  · rw [if_neg (show ¬ nI 3 = 0 by decide), if_neg (show ¬ nI 3 = 1 by decide), if_neg (show ¬ nI 3 = 2 by decide), if_pos (show nI 3 = 3 from rfl), bc_eq, p5, bcA hW.2.2.2.2.2.2.2.2.2]; rfl
  · rw [if_neg (show ¬ nI 4 = 0 by decide), if_neg (show ¬ nI 4 = 1 by decide), if_neg (show ¬ nI 4 = 2 by decide), if_neg (show ¬ nI 4 = 3 by decide), if_pos (show nI 4 = 4 from rfl), hC.2.2.2.2.2.1.2.1]; rfl
  · rw [if_neg (show ¬ nI 5 = 0 by decide), if_neg (show ¬ nI 5 = 1 by decide), if_neg (show ¬ nI 5 = 2 by decide), if_neg (show ¬ nI 5 = 3 by decide), if_neg (show ¬ nI 5 = 4 by decide), if_pos (show nI 5 = 5 from rfl), heldC hC hW]; rfl
theorem Cm.cp {A : Ab} {ns nb : Nat} {σ : Sg} (h : Cm A ns nb σ) {m x v : Nat} : Cm (aU A 23 m x v) ns nb (sI σ 0 0 5 (nI (cpA (aU A 23 m x v)))) := by
  obtain ⟨h1, h2, h3, h4, h5, h6, h7⟩ := h
  exact ⟨h1, h2, h3, h4, h5, h6, h7.1, h7.2.1, rfl, h7.2.2.2⟩
theorem Wf.cp {A : Ab} {ns nb T m x v : Nat} (h : Wf A ns nb T) (hv : v ≤ 1) : Wf (aU A 23 m x v) ns nb T := by
  obtain ⟨h1, h2, h3, h4, h5, h6, h7, h8, h9, h10⟩ := h
  refine ⟨h1, h2, h3, h4, h5, h6, h7, h8, h9, fun a b => ?_⟩
  rw [aU_eq]
  by_cases q : 23 = 23 ∧ a = m ∧ b = x
  · rw [if_pos q]; exact hv
  · rw [if_neg q]; exact h10 a b
/-! PIN -/
theorem pn_bit : ∀ (v : Fin 64) (l : Fin 6), ((nI v.val) >>> (nI l.val &&& 31)) &&& 1 = nI (v.val / 2 ^ l.val % 2) := by decide +kernel
theorem pn_xor : ∀ (v : Fin 64) (l : Fin 6), (nI v.val) ^^^ ((1 : Int32) <<< (nI l.val &&& 31)) = nI (v.val ^^^ 2 ^ l.val) ∧ v.val ^^^ 2 ^ l.val < 64 := by decide +kernel
theorem pn_cnt : ∀ (v : Fin 64) (l : Fin 6), (v.val / 2 ^ l.val % 2 = 0 ∧ pc6 (v.val ^^^ 2 ^ l.val) = pc6 v.val + 1) ∨ (v.val / 2 ^ l.val % 2 = 1 ∧ pc6 (v.val ^^^ 2 ^ l.val) + 1 = pc6 v.val) := by decide +kernel
theorem Cm.pn {A : Ab} {ns nb : Nat} {σ : Sg} (h : Cm A ns nb σ) {b x v n : Nat} : Cm (aU (aU A 6 b 8 n) 7 b x v) ns nb (sI (sI σ 6 b 8 (nI n)) 7 b x (nI v)) := by
  obtain ⟨h1, h2, h3, h4, h5, h6, h7⟩ := h
  refine ⟨h1, fun j hj => ?_, fun j hj y hy => ?_, h4, fun j hj => ?_, h6, h7⟩
  · have a := h2 j hj
    by_cases q : j = b
    · subst q
      obtain ⟨a0, a1, a2, a3, a4, a8, a9, a10, a11, a12⟩ := a
      simp [sI_eq, sI_2, aU_eq, a0, a1, a2, a3, a4, a9, a10, a11, a12]
    · simpa [sI_eq, sI_2, aU_eq, q] using a
  · have a := h3 j hj y hy
    by_cases q : j = b ∧ y = x
    · obtain ⟨rfl, rfl⟩ := q
      simp [sI_eq, aU_eq]
    · simpa [sI_eq, aU_eq, q] using a
  · have e2 : aU (aU A 6 b 8 n) 7 b x v 6 j 2 = A 6 j 2 := by simp [aU_eq]
    rw [e2]
    exact h5 j hj
theorem Wf.pn {A : Ab} {ns nb T b x v n : Nat} (h : Wf A ns nb T) (hb : b < nb) (hx : x < 96) (hv : v < 64) (hn : n ≤ 24) (hs : n + pc6 (A 7 b x) = A 6 b 8 + pc6 v) : Wf (aU (aU A 6 b 8 n) 7 b x v) ns nb T := by
  obtain ⟨h1, h2, h3, h4, h5, ⟨h6, h6', h6''⟩, h7, h8, h9, h10⟩ := h
  refine ⟨h1, h2, h3, h4, fun j hj => ?_, ⟨fun j y => ?_, fun j hj y => ?_, fun j hj => ?_⟩, h7, ?_, h9, h10⟩
  · have a := h5 j hj
    by_cases q : j = b
    · subst q
      obtain ⟨a1, a2, a3, a4, a5, a6, a7, a8, a9, a10⟩ := a
      refine ⟨by simpa [aU_eq] using a1, by simpa [aU_eq] using a2, by simpa [aU_eq] using a3, by simpa [aU_eq] using a4, by simpa [aU_eq] using a5, by simpa [aU_eq] using a6, by simpa [aU_eq] using a7, by simpa [aU_eq] using a8, by simpa [aU_eq] using hn, by simpa [aU_eq] using a10⟩
    · simpa [aU_eq, q] using a
  · rw [aU_eq]
    by_cases q : 7 = 7 ∧ j = b ∧ y = x
    · rw [if_pos q]; exact hv
    · rw [if_neg q, aU_k (by decide)]; exact h6 j y
  · rw [aU_eq, if_neg (by omega), aU_k (by decide)]; exact h6' j hj y
  · by_cases q : j = b
    · subst q
      have e : (fun y => pc6 (aU (aU A 6 j 8 n) 7 j x v 7 j y)) = fun y => if y = x then pc6 v else pc6 (A 7 j y) := by
        funext y
        by_cases q : y = x
        · simp [aU_eq, q]
        · simp [aU_eq, q]
      have g := fb_sm_upd (fun y => pc6 (A 7 j y)) (pc6 v) hx
      rw [e, aU_k (by decide), aU_same]
      have h0 := h6'' j hj
      (try dsimp only at g)
      omega
    · have h0 := h6'' j hj
      have e : (fun y => pc6 (aU (aU A 6 b 8 n) 7 b x v 7 j y)) = fun y => pc6 (A 7 j y) := by
        funext y
        simp [aU_eq, q]
      rw [e, aU_k (by decide), aU_i q]
      exact h0
  · obtain ⟨c1, c2, c3⟩ := h8
    refine ⟨fun k y => by simpa [aU_eq] using c1 k y, fun k hk y => by simpa [aU_eq] using c2 k hk y, fun j hj c hc => ?_⟩
    have := c3 j hj c hc
    have e2 : aU (aU A 6 b 8 n) 7 b x v 6 j 2 = A 6 j 2 := by simp [aU_eq]
    rw [e2]
    exact this
