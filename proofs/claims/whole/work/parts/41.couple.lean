/-! COUPLE, COUNT -/
def bcV (x : Int32) : Int32 := match FJ6_bitCount_0f7a4 0 0 sg0 x with
  | some z => z.1
  | none => 0
theorem bc_eq (ns nb : Nat) (σ : Sg) (x : Int32) : FJ6_bitCount_0f7a4 ns nb σ x = some (bcV x, σ) := rfl
def cp6 (a b c d e f : Nat) : Nat := a * 2 + b * 4 + c * 8 + d * 64 + e * 128 + f * 2048
theorem bc6 : ∀ a b c d e f : Fin 2, bcV (nI (cp6 a.val b.val c.val d.val e.val f.val)) = nI (a.val + b.val + c.val + d.val + e.val + f.val) := by decide +kernel
def cU (m x v i j c : Nat) : Nat := if i = m ∧ j = x then v else c
theorem cp_or : ∀ m x : Fin 4, m.val < x.val → ∀ a b c d e f : Fin 2, nI (cp6 a.val b.val c.val d.val e.val f.val) ||| ((1 : Int32) <<< ((nI m.val * 4 + nI x.val) &&& 31)) = nI (cp6 (cU m.val x.val 1 0 1 a.val) (cU m.val x.val 1 0 2 b.val) (cU m.val x.val 1 0 3 c.val) (cU m.val x.val 1 1 2 d.val) (cU m.val x.val 1 1 3 e.val) (cU m.val x.val 1 2 3 f.val)) := by decide +kernel
theorem cp_and : ∀ m x : Fin 4, m.val < x.val → ∀ a b c d e f : Fin 2, nI (cp6 a.val b.val c.val d.val e.val f.val) &&& (((1 : Int32) <<< ((nI m.val * 4 + nI x.val) &&& 31)) ^^^ (-1)) = nI (cp6 (cU m.val x.val 0 0 1 a.val) (cU m.val x.val 0 0 2 b.val) (cU m.val x.val 0 0 3 c.val) (cU m.val x.val 0 1 2 d.val) (cU m.val x.val 0 1 3 e.val) (cU m.val x.val 0 2 3 f.val)) := by decide +kernel
theorem cpA_6 (A : Ab) : cpA A = cp6 (A 23 0 1) (A 23 0 2) (A 23 0 3) (A 23 1 2) (A 23 1 3) (A 23 2 3) := rfl
theorem cpA_U (A : Ab) (m x v : Nat) : cpA (aU A 23 m x v) = cp6 (cU m x v 0 1 (A 23 0 1)) (cU m x v 0 2 (A 23 0 2)) (cU m x v 0 3 (A 23 0 3)) (cU m x v 1 2 (A 23 1 2)) (cU m x v 1 3 (A 23 1 3)) (cU m x v 2 3 (A 23 2 3)) := by
  unfold cpA cp6 cU
  simp only [aU_eq, true_and]
def prA (A : Ab) : Nat := A 23 0 1 + A 23 0 2 + A 23 0 3 + A 23 1 2 + A 23 1 3 + A 23 2 3
theorem bcA {A : Ab} (h : wCp A) : bcV (nI (cpA A)) = nI (prA A) := by
  have f : ∀ a b, A 23 a b < 2 := fun a b => by have := h a b; omega
  exact bc6 ⟨_, f 0 1⟩ ⟨_, f 0 2⟩ ⟨_, f 0 3⟩ ⟨_, f 1 2⟩ ⟨_, f 1 3⟩ ⟨_, f 2 3⟩
theorem orA {A : Ab} (h : wCp A) {m x : Nat} (hm : m < x) (hx : x < 4) : nI (cpA A) ||| ((1 : Int32) <<< ((nI m * 4 + nI x) &&& 31)) = nI (cpA (aU A 23 m x 1)) := by
  have f : ∀ a b, A 23 a b < 2 := fun a b => by have := h a b; omega
  rw [cpA_U]
  exact cp_or ⟨m, by omega⟩ ⟨x, hx⟩ hm ⟨_, f 0 1⟩ ⟨_, f 0 2⟩ ⟨_, f 0 3⟩ ⟨_, f 1 2⟩ ⟨_, f 1 3⟩ ⟨_, f 2 3⟩
theorem andA {A : Ab} (h : wCp A) {m x : Nat} (hm : m < x) (hx : x < 4) : nI (cpA A) &&& (((1 : Int32) <<< ((nI m * 4 + nI x) &&& 31)) ^^^ (-1)) = nI (cpA (aU A 23 m x 0)) := by
  have f : ∀ a b, A 23 a b < 2 := fun a b => by have := h a b; omega
  rw [cpA_U]
  exact cp_and ⟨m, by omega⟩ ⟨x, hx⟩ hm ⟨_, f 0 1⟩ ⟨_, f 0 2⟩ ⟨_, f 0 3⟩ ⟨_, f 1 2⟩ ⟨_, f 1 3⟩ ⟨_, f 2 3⟩
def pg (τ : Sg) (k : Nat) : Nat := if τ.1 23 0 k = 0 then 0 else 1
theorem pairs5 {ns nb : Nat} {τ : Sg} : ∀ (m i acc fuel : Nat), i + m = 16 → m < fuel → LX5_pairs_4 ns nb fuel (nI acc) (nI i) τ = some (nI (acc + (fb_sm (pg τ) 16 - fb_sm (pg τ) i)), τ) := by
  intro m
  induction m with
  | zero =>
    intro i acc fuel hi hf
    obtain ⟨n, rfl⟩ : ∃ n, fuel = n + 1 := ⟨fuel - 1, by omega⟩
    have : i = 16 := by omega
    subst this
    rw [LX5_pairs_4, if_pos (show (16 : Int32) ≤ nI 16 by decide), Nat.sub_self, Nat.add_zero]
  | succ m ih =>
    intro i acc fuel hi hf
    obtain ⟨n, rfl⟩ : ∃ n, fuel = n + 1 := ⟨fuel - 1, by omega⟩
    have hp := fb_sm_part (pg τ) (i := i) (n := 16) (by omega)
    have hs := fb_sm_succ (pg τ) i
    rw [LX5_pairs_4, if_neg (show ¬ ((16 : Int32) ≤ nI i) from nI_ge (b := 16) (by omega) (by omega)), if_neg (nI_in (by omega) (by omega)), nI_clamp (by omega), r1]
    by_cases hz : τ.1 23 0 i = 0
    · have hg : pg τ i = 0 := if_pos hz
      rw [if_pos hz, Int32.add_zero, ih (i + 1) acc n (by omega) (by omega), hs]
      congr 2
      congr 1
      omega
    · have hg : pg τ i = 1 := if_neg hz
      rw [if_neg hz, r1, ih (i + 1) (acc + 1) n (by omega) (by omega), hs]
      congr 2
      congr 1
      omega
theorem pairsM {A : Ab} {ns nb : Nat} {τ : Sg} (hM : mCp A τ) (hw : wCp A) : FX5_pairs ns nb τ = some (nI (prA A), τ) := by
  have := pairs5 (ns := ns) (nb := nb) (τ := τ) 16 0 0 4100 (by decide) (by decide)
  have v : ∀ a, a < 4 → ∀ b, b < 4 → pg τ (4 * a + b) = if a < b then A 23 a b else 0 := by
    intro a ha b hb
    unfold pg
    rw [hM a ha b hb]
    by_cases h : a < b
    · rw [if_pos h, if_pos h]
      rcases (show A 23 a b = 0 ∨ A 23 a b = 1 by have := hw a b; omega) with q | q <;> rw [q]
      · rfl
      · rfl
    · rw [if_neg h, if_neg h]; rfl
  have e : fb_sm (pg τ) 16 = prA A := by
    have g : fb_sm (pg τ) 16 = pg τ (4*0+0) + pg τ (4*0+1) + pg τ (4*0+2) + pg τ (4*0+3) + pg τ (4*1+0) + pg τ (4*1+1) + pg τ (4*1+2) + pg τ (4*1+3) + pg τ (4*2+0) + pg τ (4*2+1) + pg τ (4*2+2) + pg τ (4*2+3) + pg τ (4*3+0) + pg τ (4*3+1) + pg τ (4*3+2) + pg τ (4*3+3) := by simp [fb_sm]
    rw [g]
    simp only [v 0 (by decide) 0 (by decide), v 0 (by decide) 1 (by decide), v 0 (by decide) 2 (by decide), v 0 (by decide) 3 (by decide), v 1 (by decide) 0 (by decide), v 1 (by decide) 1 (by decide), v 1 (by decide) 2 (by decide), v 1 (by decide) 3 (by decide), v 2 (by decide) 0 (by decide), v 2 (by decide) 1 (by decide), v 2 (by decide) 2 (by decide), v 2 (by decide) 3 (by decide), v 3 (by decide) 0 (by decide), v 3 (by decide) 1 (by decide), v 3 (by decide) 2 (by decide), v 3 (by decide) 3 (by decide)]
    unfold prA
    simp
  unfold FX5_pairs
  rw [show (0 : Int32) = nI 0 from rfl, this, Option.bind_some, Nat.zero_add, e]
  rfl
theorem counted_ok {A : Ab} {ns nb T : Nat} {τ : Sg} (hM : Mm A ns nb τ) (hW : Wf A ns nb T) (l : Nat) (hl : l ≤ 5) : FX5_counted ns nb τ (nI l) = some (nI (if l = 0 then A 0 0 6 else if l = 1 then ns else if l = 2 then nb else if l = 3 then prA A else if l = 4 then A 3 0 2 else fb_sm (fun i => A 5 i 1) 4), τ) := by
  obtain ⟨p2, p3, p1, -⟩ := hM.2.2.2.2.2.2.2
  unfold FX5_counted
  rcases (show l = 0 ∨ l = 1 ∨ l = 2 ∨ l = 3 ∨ l = 4 ∨ l = 5 by omega) with rfl | rfl | rfl | rfl | rfl | rfl
  · rw [if_pos (show nI 0 = 0 from rfl), p1]; rfl
  · rw [if_neg (show ¬ nI 1 = 0 by decide), if_pos (show nI 1 = 1 from rfl), p2]; rfl
  · rw [if_neg (show ¬ nI 2 = 0 by decide), if_neg (show ¬ nI 2 = 1 by decide), if_pos (show nI 2 = 2 from rfl), p3]; rfl
  · rw [if_neg (show ¬ nI 3 = 0 by decide), if_neg (show ¬ nI 3 = 1 by decide), if_neg (show ¬ nI 3 = 2 by decide), if_pos (show nI 3 = 3 from rfl), pairsM hM.2.2.2.2.2.2.1 hW.2.2.2.2.2.2.2.2.2]; rfl
  · rw [if_neg (show ¬ nI 4 = 0 by decide), if_neg (show ¬ nI 4 = 1 by decide), if_neg (show ¬ nI 4 = 2 by decide), if_neg (show ¬ nI 4 = 3 by decide), if_pos (show nI 4 = 4 from rfl), hM.2.2.2.2.2.1.2.1]; rfl
  · rw [if_neg (show ¬ nI 5 = 0 by decide), if_neg (show ¬ nI 5 = 1 by decide), if_neg (show ¬ nI 5 = 2 by decide), if_neg (show ¬ nI 5 = 3 by decide), if_neg (show ¬ nI 5 = 4 by decide), heldM hM hW]; rfl
theorem countC {A : Ab} {ns nb T : Nat} {σ : Sg} (hC : Cm A ns nb σ) (hW : Wf A ns nb T) (l : Nat) (hl : l ≤ 5) : FX4_count ns nb σ (nI l) = some (.inr (nI (if l = 0 then A 0 0 6 else if l = 1 then ns else if l = 2 then nb else if l = 3 then prA A else if l = 4 then A 3 0 2 else fb_sm (fun i => A 5 i 1) 4)), σ) := by
  obtain ⟨p3, p4, p5, p6⟩ := hC.2.2.2.2.2.2
  unfold FX4_count
  rcases (show l = 0 ∨ l = 1 ∨ l = 2 ∨ l = 3 ∨ l = 4 ∨ l = 5 by omega) with rfl | rfl | rfl | rfl | rfl | rfl
  · rw [if_pos (show nI 0 = 0 from rfl), p6]; rfl
  · rw [if_neg (show ¬ nI 1 = 0 by decide), if_pos (show nI 1 = 1 from rfl), p3]; rfl
  · rw [if_neg (show ¬ nI 2 = 0 by decide), if_neg (show ¬ nI 2 = 1 by decide), if_pos (show nI 2 = 2 from rfl), p4]; rfl
  · rw [if_neg (show ¬ nI 3 = 0 by decide), if_neg (show ¬ nI 3 = 1 by decide), if_neg (show ¬ nI 3 = 2 by decide), if_pos (show nI 3 = 3 from rfl), bc_eq, p5, bcA hW.2.2.2.2.2.2.2.2.2]; rfl
  · rw [if_neg (show ¬ nI 4 = 0 by decide), if_neg (show ¬ nI 4 = 1 by decide), if_neg (show ¬ nI 4 = 2 by decide), if_neg (show ¬ nI 4 = 3 by decide), if_pos (show nI 4 = 4 from rfl), hC.2.2.2.2.2.1.2.1]; rfl
  · rw [if_neg (show ¬ nI 5 = 0 by decide), if_neg (show ¬ nI 5 = 1 by decide), if_neg (show ¬ nI 5 = 2 by decide), if_neg (show ¬ nI 5 = 3 by decide), if_neg (show ¬ nI 5 = 4 by decide), if_pos (show nI 5 = 5 from rfl), heldC hC hW]; rfl
theorem count_ok (T ns nb : Nat) (σ : Sg) (a1 : Int32) (h : Inv T ns nb σ) : ∃ (k bv : Int32) (σ1 σ2 : Sg), FL_count ns nb σ a1 = some (k, σ1) ∧ FX5_count ns nb σ1 a1 = some (bv, σ2) ∧ σ2.1 20 0 0 = k ∧ (k = 0 → σ2.2 30 0 0 = bv.toInt64) ∧ Inv (T + 1) ns nb σ2 := by
  refine bothW (F5 := fun τ => FX5_count ns nb τ a1) h (fun A hC hW => ?_)
  rcases rngN (a := a1) (x := 0) (y := 5) (by decide) (by decide) with q | ⟨l, l1, l2, rfl⟩
  · have ne : ∀ j, j ≤ 5 → ¬ a1 = nI j := fun j hj e => by
      subst e
      exact in_rng (Nat.zero_le j) hj (by decide) q
    refine ⟨.inl 1, σ, A, ?_, frC.rf, hC, hW.up (by omega), fun τ hM => ref1 (x := 1) (y := 0) hM ?_ rfl (by decide)⟩
    · unfold FX4_count
      rw [if_neg (show ¬ a1 = 0 from ne 0 (by decide)), if_neg (show ¬ a1 = 1 from ne 1 (by decide)), if_neg (show ¬ a1 = 2 from ne 2 (by decide)), if_neg (show ¬ a1 = 3 from ne 3 (by decide)), if_neg (show ¬ a1 = 4 from ne 4 (by decide)), if_neg (show ¬ a1 = 5 from ne 5 (by decide))]
    · (try dsimp only)
      unfold FX5_count
      rw [in5n (show a1 < 0 ∨ 5 < a1 from q), Option.bind_some, if_pos rfl]
  · have q := in_rng (x := 0) (y := 5) l1 l2 (by decide)
    refine ⟨_, σ, A, countC hC hW l l2, frC.rf, hC, hW.up (by omega), fun τ hM => ⟨_, sI τ 20 0 0 0, ?_, frM_I (by decide) (by decide), hM.thr 0, rfl, rfl⟩⟩
    (try dsimp only)
    unfold FX5_count
    rw [in5y (show ¬ (nI l < 0 ∨ 5 < nI l) from q), Option.bind_some, if_neg n10, counted_ok (hM.thr 0) hW l l2]
    rfl
