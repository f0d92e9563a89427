/-! DIGEST -/
def fdF (g : Nat → Int64 → Int64) : Nat → Nat → Int64 → Int64
  | 0, _, d => d
  | m + 1, i, d => fdF g m (i + 1) (g i d)
theorem loopF {L : Nat → Int64 → Int32 → Sg → Option (Int64 × Sg)} {σ : Sg} {g : Nat → Int64 → Int64} {N : Nat} (hend : ∀ u d, L (u + 1) d (nI N) σ = some (d, σ)) (hstep : ∀ i, i < N → ∀ u d, L (u + 1) d (nI i) σ = L u (g i d) (nI (i + 1)) σ) : ∀ (m i : Nat) (d : Int64) (fuel : Nat), i + m = N → m < fuel → L fuel d (nI i) σ = some (fdF g m i d, σ) := by
  intro m
  induction m with
  | zero =>
    intro i d fuel hi hf
    obtain ⟨u, rfl⟩ : ∃ u, fuel = u + 1 := ⟨fuel - 1, by omega⟩
    have : i = N := by omega
    subst this
    rw [hend]; rfl
  | succ m ih =>
    intro i d fuel hi hf
    obtain ⟨u, rfl⟩ : ∃ u, fuel = u + 1 := ⟨fuel - 1, by omega⟩
    rw [hstep i (by omega), ih (i + 1) _ u (by omega) (by omega)]
    rfl
theorem fdF_cong {g g' : Nat → Int64 → Int64} {N : Nat} (h : ∀ i, i < N → ∀ d, g i d = g' i d) : ∀ (m i : Nat) (d : Int64), i + m ≤ N → fdF g m i d = fdF g' m i d := by
  intro m
  induction m with
  | zero => intro i d _; rfl
  | succ m ih => intro i d hi; rw [fdF, fdF, h i (by omega), ih (i + 1) _ (by omega)]
def mixF (f : Nat → Nat) (i : Nat) (d : Int64) : Int64 := d * 31 + (nI (f i)).toInt64
theorem fd_flat (S : Nat → Nat) : ∀ (m k : Nat) (d : Int64), fdF (fun k d => fdF (mixF (fun w => S (4 * k + w))) 4 0 d) m k d = fdF (mixF S) (4 * m) (4 * k) d := by
  intro m
  induction m with
  | zero => intro k d; rfl
  | succ m ih =>
    intro k d
    rw [fdF, ih, show 4 * (m + 1) = 4 * m + 1 + 1 + 1 + 1 by omega, fdF, fdF, fdF, fdF]
    rfl
def brA (A : Ab) (b l : Nat) : Nat := if l < 5 then A 6 b l else if l = 5 then plA A b else if l = 6 then A 6 b 9 else if l = 7 then A 6 b 8 else if l = 8 then A 6 b 11 else A 6 b 12
theorem birdM {A : Ab} {ns nb : Nat} {τ : Sg} (hM : Mm A ns nb τ) (h8 : nb ≤ 8) {b l : Nat} (hb : b < nb) (hl : l < 10) : FX5_get ns nb τ (nI b) (nI l) = some (nI (brA A b l), τ) := by
  obtain ⟨a0, a1, a2, a3, a4, a5, a6, a7, a8, a9, -⟩ := hM.2.1 b hb
  rw [gt5 (by omega) (by omega)]
  rcases (show l = 0 ∨ l = 1 ∨ l = 2 ∨ l = 3 ∨ l = 4 ∨ l = 5 ∨ l = 6 ∨ l = 7 ∨ l = 8 ∨ l = 9 by omega) with rfl | rfl | rfl | rfl | rfl | rfl | rfl | rfl | rfl | rfl

  · exact congrArg (fun z => some (z, τ)) a0
  · exact congrArg (fun z => some (z, τ)) a1
  · exact congrArg (fun z => some (z, τ)) a2
  · exact congrArg (fun z => some (z, τ)) a3
  · exact congrArg (fun z => some (z, τ)) a4
  · exact congrArg (fun z => some (z, τ)) a5
  · exact congrArg (fun z => some (z, τ)) a6
  · exact congrArg (fun z => some (z, τ)) a7
  · exact congrArg (fun z => some (z, τ)) a8
  · exact congrArg (fun z => some (z, τ)) a9
theorem birdC {A : Ab} {ns nb T : Nat} {σ : Sg} (hC : Cm A ns nb σ) (hW : Wf A ns nb T) (hT : T ≤ 516) {b l : Nat} (hb : b < nb) (hl : l < 10) : FX4_bird ns nb σ (nI b) (nI l) = some (.inr (nI (brA A b l)), σ) := by
  have h8 : nb ≤ 8 := hW.2.1
  obtain ⟨c0, c1, c2, c3, c4, c8, c9, c10, c11, c12⟩ := hC.2.1 b hb
  unfold FX4_bird
  rw [bdAt_in h8 hb, Option.bind_some, oc_s, if_pos hb]
  dsimp only
  rcases (show l = 0 ∨ l = 1 ∨ l = 2 ∨ l = 3 ∨ l = 4 ∨ l = 5 ∨ l = 6 ∨ l = 7 ∨ l = 8 ∨ l = 9 by omega) with rfl | rfl | rfl | rfl | rfl | rfl | rfl | rfl | rfl | rfl
  · rw [if_pos (show nI 0 = 0 from rfl)]
    rw [c0]; rfl
  · rw [if_neg (show ¬ nI 1 = 0 by decide)]
    rw [if_pos (show nI 1 = 1 from rfl)]
    rw [c1]; rfl
  · rw [if_neg (show ¬ nI 2 = 0 by decide)]
    rw [if_neg (show ¬ nI 2 = 1 by decide)]
    rw [if_pos (show nI 2 = 2 from rfl)]
    rw [c2]; rfl
  · rw [if_neg (show ¬ nI 3 = 0 by decide)]
    rw [if_neg (show ¬ nI 3 = 1 by decide)]
    rw [if_neg (show ¬ nI 3 = 2 by decide)]
    rw [if_pos (show nI 3 = 3 from rfl)]
    rw [c3]; rfl
  · rw [if_neg (show ¬ nI 4 = 0 by decide)]
    rw [if_neg (show ¬ nI 4 = 1 by decide)]
    rw [if_neg (show ¬ nI 4 = 2 by decide)]
    rw [if_neg (show ¬ nI 4 = 3 by decide)]
    rw [if_pos (show nI 4 = 4 from rfl)]
    rw [c4]; rfl
  · rw [if_neg (show ¬ nI 5 = 0 by decide)]
    rw [if_neg (show ¬ nI 5 = 1 by decide)]
    rw [if_neg (show ¬ nI 5 = 2 by decide)]
    rw [if_neg (show ¬ nI 5 = 3 by decide)]
    rw [if_neg (show ¬ nI 5 = 4 by decide)]
    rw [if_pos (show nI 5 = 5 from rfl)]
    rw [plNow hC hW hT hb, Option.bind_some]; rfl
  · rw [if_neg (show ¬ nI 6 = 0 by decide)]
    rw [if_neg (show ¬ nI 6 = 1 by decide)]
    rw [if_neg (show ¬ nI 6 = 2 by decide)]
    rw [if_neg (show ¬ nI 6 = 3 by decide)]
    rw [if_neg (show ¬ nI 6 = 4 by decide)]
    rw [if_neg (show ¬ nI 6 = 5 by decide)]
    rw [if_pos (show nI 6 = 6 from rfl)]
    rw [c9]
    rcases (show A 6 b 9 = 0 ∨ A 6 b 9 = 1 by have := (hW.2.2.2.2.1 b hb).2.2.2.2.2.2.2.2.2.1; omega) with q9 | q9
    · rw [q9, if_pos (show nI 0 = 0 from rfl), show brA A b 6 = A 6 b 9 from rfl, q9]; rfl
    · rw [q9, if_neg (show ¬ nI 1 = 0 by decide), show brA A b 6 = A 6 b 9 from rfl, q9]; rfl
  · rw [if_neg (show ¬ nI 7 = 0 by decide)]
    rw [if_neg (show ¬ nI 7 = 1 by decide)]
    rw [if_neg (show ¬ nI 7 = 2 by decide)]
    rw [if_neg (show ¬ nI 7 = 3 by decide)]
    rw [if_neg (show ¬ nI 7 = 4 by decide)]
    rw [if_neg (show ¬ nI 7 = 5 by decide)]
    rw [if_neg (show ¬ nI 7 = 6 by decide)]
    rw [if_pos (show nI 7 = 7 from rfl)]
    rw [c8]; rfl
  · rw [if_neg (show ¬ nI 8 = 0 by decide)]
    rw [if_neg (show ¬ nI 8 = 1 by decide)]
    rw [if_neg (show ¬ nI 8 = 2 by decide)]
    rw [if_neg (show ¬ nI 8 = 3 by decide)]
    rw [if_neg (show ¬ nI 8 = 4 by decide)]
    rw [if_neg (show ¬ nI 8 = 5 by decide)]
    rw [if_neg (show ¬ nI 8 = 6 by decide)]
    rw [if_neg (show ¬ nI 8 = 7 by decide)]
    rw [if_pos (show nI 8 = 8 from rfl)]
    rw [c11, lN_i]; rfl
  · rw [if_neg (show ¬ nI 9 = 0 by decide)]
    rw [if_neg (show ¬ nI 9 = 1 by decide)]
    rw [if_neg (show ¬ nI 9 = 2 by decide)]
    rw [if_neg (show ¬ nI 9 = 3 by decide)]
    rw [if_neg (show ¬ nI 9 = 4 by decide)]
    rw [if_neg (show ¬ nI 9 = 5 by decide)]
    rw [if_neg (show ¬ nI 9 = 6 by decide)]
    rw [if_neg (show ¬ nI 9 = 7 by decide)]
    rw [if_neg (show ¬ nI 9 = 8 by decide)]
    rw [if_pos (show nI 9 = 9 from rfl)]
    rw [c12]; rfl
theorem liftC {A : Ab} {ns nb T : Nat} {σ : Sg} (hC : Cm A ns nb σ) (hW : Wf A ns nb T) (hT : T ≤ 516) {b c : Nat} (hb : b < nb) (hc : c < 3) : FX4_lift ns nb σ (nI b) (nI c) (-1) = some (.inr (nI (lfN A b c (plA A b))), σ) := by
  have h8 : nb ≤ 8 := hW.2.1
  have hp := plA_lt hW hb
  have w3 := (hW.2.2.2.2.1 b hb).2.2.2.1
  have hk : 3 * b + c < 3 * nb := by omega
  unfold FX4_lift
  rw [bdAt_in h8 hb, Option.bind_some, oc_s, if_pos hb]
  dsimp only
  rw [cmAt_in hc, Option.bind_some, oc_s, if_pos hk]
  dsimp only
  rw [if_pos rfl, if_pos rfl, plNow hC hW hT hb, Option.bind_some]
  dsimp only
  rw [at4 (k := 12) (N := 96) rfl (by decide) (show A 6 b 11 % A 6 b 2 < 96 from by unfold plA at hp; omega), Option.bind_some]
  dsimp only
  rw [show σ.1 12 (3 * b + c) (A 6 b 11 % A 6 b 2) = _ from (lfN_c hC hW hb hc hp).1]
theorem sungC {A : Ab} {ns nb T : Nat} {σ : Sg} (hC : Cm A ns nb σ) (hW : Wf A ns nb T) {k u : Nat} (hk : k < A 3 0 1) (hu : u < 4) : FX4_sung ns nb σ (nI k) (nI u) = some (.inr (nI (A 4 0 (4 * k + u))), σ) := by
  have h250 : A 3 0 1 ≤ 250 := hW.2.2.2.2.2.2.2.2.1.1
  have q1 : ¬ (nI k < 0 ∨ nI (A 3 0 1) - 1 < nI k) := by rw [rng0 (by omega)]; exact fun z => z (vp_in_nI hk (by omega))
  have q := in_rng (x := 0) (y := 3) (j := u) (by omega) (by omega) (by decide)
  unfold FX4_sung
  rw [hC.2.2.2.2.2.1.1, in4y q1, Option.bind_some, if_neg n10, in4y (show ¬ (nI u < 0 ∨ 3 < nI u) from q), Option.bind_some, if_neg n10]
  dsimp only
  rw [told4 hC.2.2.2.2.2.1 h250 hk hu]
  rfl
/-- what count tells -/
def cnA (A : Ab) (ns nb l : Nat) : Nat := if l = 0 then A 0 0 6 else if l = 1 then ns else if l = 2 then nb else if l = 3 then prA A else if l = 4 then A 3 0 2 else fb_sm (fun i => A 5 i 1) 4
def bdF1 (A : Ab) (b : Nat) (d : Int64) : Int64 := fdF (mixF (fun c => lfN A b c (plA A b))) 3 0 (fdF (mixF (A 8 b)) 6 0 (fdF (mixF (brA A b)) 10 0 d))
def digA (A : Ab) (ns nb : Nat) : Int64 := fdF (mixF (A 4 0)) (4 * A 3 0 1) 0 (fdF (bdF1 A) nb 0 (fdF (fun i => fdF (mixF (sprA A nb i)) 7 0) ns 0 (fdF (mixF (cnA A ns nb)) 6 0 449)))
theorem digC {A : Ab} {ns nb T : Nat} {σ : Sg} (hC : Cm A ns nb σ) (hW : Wf A ns nb T) (hT : T ≤ 516) : FX4_digest ns nb σ = some (digA A ns nb, σ) := by
  have h4 := hW.1
  have h8 : nb ≤ 8 := hW.2.1
  have h250 : A 3 0 1 ≤ 250 := hW.2.2.2.2.2.2.2.2.1.1
  have s1 : ∀ d, LX4_digest_6 ns nb 4100 d 0 σ = some (fdF (mixF (cnA A ns nb)) 6 0 d, σ) := fun d => loopF (L := LX4_digest_6 ns nb) (N := 6) (fun u d => by rw [LX4_digest_6, if_pos (show (6 : Int32) ≤ nI 6 by decide)]) (fun i hi u d => by
    rw [LX4_digest_6, if_neg (show ¬ ((6 : Int32) ≤ nI i) from nI_ge (b := 6) hi (by omega)), countC hC hW i (by omega), nI_1 i |>.symm]
    rfl) 6 0 d 4100 (by omega) (by omega)
  have s2 : ∀ i, i < ns → ∀ d, LX4_digest_41 ns nb (nI i) 4100 d 0 σ = some (fdF (mixF (sprA A nb i)) 7 0 d, σ) := fun i hi d => loopF (L := LX4_digest_41 ns nb (nI i)) (N := 7) (fun u d => by rw [LX4_digest_41, if_pos (show (7 : Int32) ≤ nI 7 by decide)]) (fun l hl u d => by
    rw [LX4_digest_41, if_neg (show ¬ ((7 : Int32) ≤ nI l) from nI_ge (b := 7) hl (by omega)), springC hC hW hT hi hl, nI_1 l |>.symm]
    rfl) 7 0 d 4100 (by omega) (by omega)
  have s3 : ∀ d, LX4_digest_30 ns nb 4100 d 0 σ = some (fdF (fun i => fdF (mixF (sprA A nb i)) 7 0) ns 0 d, σ) := fun d => loopF (L := LX4_digest_30 ns nb) (N := ns) (fun u d => by rw [LX4_digest_30, hC.2.2.2.2.2.2.1, if_pos (nI_le (Nat.le_refl _) (by omega))]) (fun i hi u d => by
    rw [LX4_digest_30, hC.2.2.2.2.2.2.1, if_neg (nI_ge hi (by omega)), s2 i hi, nI_1 i |>.symm]
    rfl) ns 0 d 4100 (by omega) (by omega)
  have s4 : ∀ b, b < nb → ∀ d, LX4_mixBird_6 ns nb (nI b) 4100 d 0 σ = some (fdF (mixF (brA A b)) 10 0 d, σ) := fun b hb d => loopF (L := LX4_mixBird_6 ns nb (nI b)) (N := 10) (fun u d => by rw [LX4_mixBird_6, if_pos (show (10 : Int32) ≤ nI 10 by decide)]) (fun l hl u d => by
    rw [LX4_mixBird_6, if_neg (show ¬ ((10 : Int32) ≤ nI l) from nI_ge (b := 10) hl (by omega)), birdC hC hW hT hb hl, nI_1 l |>.symm]
    rfl) 10 0 d 4100 (by omega) (by omega)
  have s5 : ∀ b, b < nb → ∀ d, LX4_mixBird_60 ns nb (nI b) b 4100 d 0 σ = some (fdF (mixF (A 8 b)) 6 0 d, σ) := fun b hb d => loopF (L := LX4_mixBird_60 ns nb (nI b) b) (N := 6) (fun u d => by rw [LX4_mixBird_60, if_pos (show (6 : Int32) ≤ nI 6 by decide)]) (fun l hl u d => by
    rw [LX4_mixBird_60, if_neg (show ¬ ((6 : Int32) ≤ nI l) from nI_ge (b := 6) hl (by omega)), if_neg (nI_in hl (by decide)), nI_clamp (by omega), hC.2.2.2.1 b hb l hl, nI_1 l |>.symm]
    rfl) 6 0 d 4100 (by omega) (by omega)
  have s6 : ∀ b, b < nb → ∀ d, LX4_mixBird_92 ns nb (nI b) 4100 d 0 σ = some (fdF (mixF (fun c => lfN A b c (plA A b))) 3 0 d, σ) := fun b hb d => loopF (L := LX4_mixBird_92 ns nb (nI b)) (N := 3) (fun u d => by rw [LX4_mixBird_92, if_pos (show (3 : Int32) ≤ nI 3 by decide)]) (fun l hl u d => by
    rw [LX4_mixBird_92, if_neg (show ¬ ((3 : Int32) ≤ nI l) from nI_ge (b := 3) hl (by omega)), liftC hC hW hT hb hl, nI_1 l |>.symm]
    rfl) 3 0 d 4100 (by omega) (by omega)
  have s7 : ∀ b, b < nb → ∀ d, FX4_mixBird ns nb σ d (nI b) = some (bdF1 A b d, σ) := fun b hb d => by
    unfold FX4_mixBird
    rw [s4 b hb, Option.bind_some]
    dsimp only
    rw [bdAt_in h8 hb, Option.bind_some, oc_s, if_pos hb]
    dsimp only
    rw [s5 b hb, Option.bind_some]
    dsimp only
    rw [s6 b hb]
    rfl
  have s8 : ∀ d, LX4_digest_74 ns nb 4100 d 0 σ = some (fdF (bdF1 A) nb 0 d, σ) := fun d => loopF (L := LX4_digest_74 ns nb) (N := nb) (fun u d => by rw [LX4_digest_74, hC.2.2.2.2.2.2.2.1, if_pos (nI_le (Nat.le_refl _) (by omega))]) (fun i hi u d => by
    rw [LX4_digest_74, hC.2.2.2.2.2.2.2.1, if_neg (nI_ge hi (by omega)), s7 i hi, nI_1 i |>.symm]
    rfl) nb 0 d 4100 (by omega) (by omega)
  have s9 : ∀ k, k < A 3 0 1 → ∀ d, LX4_digest_111 ns nb (nI k) 4100 d 0 σ = some (fdF (mixF (fun w => A 4 0 (4 * k + w))) 4 0 d, σ) := fun k hk d => loopF (L := LX4_digest_111 ns nb (nI k)) (N := 4) (fun u d => by rw [LX4_digest_111, if_pos (show (4 : Int32) ≤ nI 4 by decide)]) (fun l hl u d => by
    rw [LX4_digest_111, if_neg (show ¬ ((4 : Int32) ≤ nI l) from nI_ge (b := 4) hl (by omega)), sungC hC hW hk hl, nI_1 l |>.symm]
    rfl) 4 0 d 4100 (by omega) (by omega)
  have s10 : ∀ d, LX4_digest_97 ns nb 4100 d 0 σ = some (fdF (fun k d => fdF (mixF (fun w => A 4 0 (4 * k + w))) 4 0 d) (A 3 0 1) 0 d, σ) := fun d => loopF (L := LX4_digest_97 ns nb) (N := A 3 0 1) (fun u d => by rw [LX4_digest_97, hC.2.2.2.2.2.1.1, if_pos (nI_le (Nat.le_refl _) (by omega))]) (fun i hi u d => by
    rw [LX4_digest_97, hC.2.2.2.2.2.1.1, if_neg (nI_ge hi (by omega)), s9 i hi, nI_1 i |>.symm]
    rfl) (A 3 0 1) 0 d 4100 (by omega) (by omega)
  unfold FX4_digest
  rw [s1, Option.bind_some]
  dsimp only
  rw [s3, Option.bind_some]
  dsimp only
  rw [s8, Option.bind_some]
  dsimp only
  rw [s10, Option.bind_some, fd_flat]
  rfl
theorem digM {A : Ab} {ns nb T : Nat} {τ : Sg} (hM : Mm A ns nb τ) (hW : Wf A ns nb T) : FX5_digest ns nb τ = some (digA A ns nb, sI τ 20 0 0 0) := by
  have h4 := hW.1
  have h8 : nb ≤ 8 := hW.2.1
  have h250 : A 3 0 1 ≤ 250 := hW.2.2.2.2.2.2.2.2.1.1
  have hM := hM.thr 0
  unfold FX5_digest
  generalize sI τ 20 0 0 0 = τ at hM ⊢
  have s1 : ∀ d, LX5_digest_11 ns nb 4100 d 0 τ = some (fdF (mixF (cnA A ns nb)) 6 0 d, τ) := fun d => loopF (L := LX5_digest_11 ns nb) (N := 6) (fun u d => by rw [LX5_digest_11, if_pos (show (6 : Int32) ≤ nI 6 by decide)]) (fun i hi u d => by
    rw [LX5_digest_11, if_neg (show ¬ ((6 : Int32) ≤ nI i) from nI_ge (b := 6) hi (by omega)), counted_ok hM hW i (by omega), nI_1 i |>.symm]
    rfl) 6 0 d 4100 (by omega) (by omega)
  have s2 : ∀ i, i < ns → ∀ d, LX5_digest_49 ns nb (nI i) 4100 d 0 τ = some (fdF (mixF (sprA A nb i)) 7 0 d, τ) := fun i hi d => loopF (L := LX5_digest_49 ns nb (nI i)) (N := 7) (fun u d => by rw [LX5_digest_49, if_pos (show (7 : Int32) ≤ nI 7 by decide)]) (fun l hl u d => by
    rw [LX5_digest_49, if_neg (show ¬ ((7 : Int32) ≤ nI l) from nI_ge (b := 7) hl (by omega)), toldM hM hW (by omega) hl, nI_1 l |>.symm]
    rfl) 7 0 d 4100 (by omega) (by omega)
  have s3 : ∀ d, LX5_digest_38 ns nb 4100 d 0 τ = some (fdF (fun i => fdF (mixF (sprA A nb i)) 7 0) ns 0 d, τ) := fun d => loopF (L := LX5_digest_38 ns nb) (N := ns) (fun u d => by rw [LX5_digest_38, hM.2.2.2.2.2.2.2.1, if_pos (nI_le (Nat.le_refl _) (by omega))]) (fun i hi u d => by
    rw [LX5_digest_38, hM.2.2.2.2.2.2.2.1, if_neg (nI_ge hi (by omega)), s2 i hi, nI_1 i |>.symm]
    rfl) ns 0 d 4100 (by omega) (by omega)
  have s4 : ∀ b, b < nb → ∀ d, LX5_digest_96 ns nb (nI b) 4100 d 0 τ = some (fdF (mixF (brA A b)) 10 0 d, τ) := fun b hb d => loopF (L := LX5_digest_96 ns nb (nI b)) (N := 10) (fun u d => by rw [LX5_digest_96, if_pos (show (10 : Int32) ≤ nI 10 by decide)]) (fun l hl u d => by
    rw [LX5_digest_96, if_neg (show ¬ ((10 : Int32) ≤ nI l) from nI_ge (b := 10) hl (by omega)), birdM hM h8 hb hl, nI_1 l |>.symm]
    rfl) 10 0 d 4100 (by omega) (by omega)
  have s5 : ∀ b, b < nb → ∀ d, LX5_digest_127 ns nb (nI b) 4100 d 0 τ = some (fdF (mixF (A 8 b)) 6 0 d, τ) := fun b hb d => loopF (L := LX5_digest_127 ns nb (nI b)) (N := 6) (fun u d => by rw [LX5_digest_127, if_pos (show (6 : Int32) ≤ nI 6 by decide)]) (fun l hl u d => by
    have hg := ixg 6 (i := b) (f := l) (N := 48) (by omega) (by decide)
    have hg1 : ¬ ((6 * nI b + nI l) < 0 ∨ 48 ≤ (6 * nI b + nI l).toNatClampNeg) := hg.1
    have hg2 : (6 * nI b + nI l).toNatClampNeg = 6 * b + l := hg.2
    rw [LX5_digest_127, if_neg (show ¬ ((6 : Int32) ≤ nI l) from nI_ge (b := 6) hl (by omega)), if_neg hg1, hg2, hM.2.2.2.1 b hb l hl, nI_1 l |>.symm]
    rfl) 6 0 d 4100 (by omega) (by omega)
  have s6 : ∀ b, b < nb → ∀ d, LX5_digest_163 ns nb (nI b) 4100 d 0 τ = some (fdF (mixF (fun c => lfN A b c (plA A b))) 3 0 d, τ) := fun b hb d => loopF (L := LX5_digest_163 ns nb (nI b)) (N := 3) (fun u d => by rw [LX5_digest_163, if_pos (show (3 : Int32) ≤ nI 3 by decide)]) (fun l hl u d => by
    have hg : FX5_get ns nb τ (nI b) 5 = some (nI (plA A b), τ) := birdM hM h8 (l := 5) hb (by decide)
    rw [LX5_digest_163, if_neg (show ¬ ((3 : Int32) ≤ nI l) from nI_ge (b := 3) hl (by omega)), hg, Option.bind_some]
    dsimp only
    rw [(lfN_m hM hW hb hl (plA_lt hW hb)).1, nI_1 l |>.symm]
    rfl) 3 0 d 4100 (by omega) (by omega)
  have s8 : ∀ d, LX5_digest_85 ns nb 4100 d 0 τ = some (fdF (bdF1 A) nb 0 d, τ) := fun d => loopF (L := LX5_digest_85 ns nb) (N := nb) (fun u d => by rw [LX5_digest_85, hM.2.2.2.2.2.2.2.2.1, if_pos (nI_le (Nat.le_refl _) (by omega))]) (fun i hi u d => by
    rw [LX5_digest_85, hM.2.2.2.2.2.2.2.2.1, if_neg (nI_ge hi (by omega)), s4 i hi, Option.bind_some]
    dsimp only
    rw [s5 i hi, Option.bind_some]
    dsimp only
    rw [s6 i hi, nI_1 i |>.symm]
    rfl) nb 0 d 4100 (by omega) (by omega)
  have e4 : 4 * nI (A 3 0 1) = nI (4 * A 3 0 1) := by rw [show (4 : Int32) = nI 4 from rfl, pk_mul]
  have s10 : ∀ d, LX5_digest_204 ns nb 4100 d 0 τ = some (fdF (mixF (A 4 0)) (4 * A 3 0 1) 0 d, τ) := fun d => loopF (L := LX5_digest_204 ns nb) (N := 4 * A 3 0 1) (fun u d => by rw [LX5_digest_204, hM.2.2.2.2.2.1.1, e4, if_pos (nI_le (Nat.le_refl _) (by omega))]) (fun i hi u d => by
    rw [LX5_digest_204, hM.2.2.2.2.2.1.1, e4, if_neg (nI_ge hi (by omega)), if_neg (nI_in (by omega) (by decide)), nI_clamp (by omega), hM.2.2.2.2.2.1.2.2 i hi, nI_1 i |>.symm]
    rfl) (4 * A 3 0 1) 0 d 4100 (by omega) (by omega)
  rw [s1, Option.bind_some]
  dsimp only
  rw [s3, Option.bind_some]
  dsimp only
  rw [s8, Option.bind_some]
  dsimp only
  rw [s10]
  rfl
theorem digest_ok (T ns nb : Nat) (σ : Sg) (hT : T < 512) (h : Inv T ns nb σ) : ∃ (r : Int64) (σ1 σ2 : Sg), FX4_digest ns nb σ = some (r, σ1) ∧ FX5_digest ns nb σ1 = some (r, σ2) ∧ Inv (T + 1) ns nb σ2 := by
  obtain ⟨r, q, σ1, σ2, e1, e2, rfl, -, e3⟩ := both (T' := T + 1) (ns' := ns) (nb' := nb) (P := fun r q => r = q) (FC := fun σ => FX4_digest ns nb σ) (FM := fun τ => FX5_digest ns nb τ) h (fun A hC hW => ⟨_, σ, A, digC hC hW (by omega), frC.rf, hC, hW.up (by omega), fun τ hM => ⟨_, sI τ 20 0 0 0, digM hM hW, frM_I (by decide) (by decide), hM.thr 0, rfl⟩⟩)
  exact ⟨r, σ1, σ2, e1, e2, e3⟩
