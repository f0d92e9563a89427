/-! THE REFERENCE'S LOAD; SPRING -/
theorem ld42 {A : Ab} {ns nb T : Nat} {τ : Sg} (hM : Mm A ns nb τ) (hW : Wf A ns nb T) {b : Nat} (hb : b < nb) (v1 v2 : Int32) : ∀ (m i acc fuel : Nat), i + m = 3 → m < fuel → LX5_load_42 ns nb v1 v2 (nI b) fuel (nI acc) (nI i) τ = some (nI (acc + (fb_sm (fun c => lfN A b c (plA A b)) 3 - fb_sm (fun c => lfN A b c (plA A b)) i)), τ) := by
  have hp := plA_lt hW hb
  have h8 := hW.2.1
  intro m
  induction m with
  | zero =>
    intro i acc fuel hi hf
    obtain ⟨u, rfl⟩ : ∃ u, fuel = u + 1 := ⟨fuel - 1, by omega⟩
    have : i = 3 := by omega
    subst this
    rw [LX5_load_42, if_pos (show (3 : Int32) ≤ nI 3 by decide), Nat.sub_self, Nat.add_zero]
  | succ m ih =>
    intro i acc fuel hi hf
    obtain ⟨u, rfl⟩ : ∃ u, fuel = u + 1 := ⟨fuel - 1, by omega⟩
    have hq := fb_sm_part (fun c => lfN A b c (plA A b)) (i := i) (n := 3) (by omega)
    have hs := fb_sm_succ (fun c => lfN A b c (plA A b)) i
    have hg : FX5_get ns nb τ (nI b) 5 = some (nI (plA A b), τ) := by
      unfold plA
      rw [← (hM.2.1 b hb).2.2.2.2.2.1]; exact gt5 (f := 5) (by omega) (by decide)
    rw [LX5_load_42, if_neg (show ¬ ((3 : Int32) ≤ nI i) from nI_ge (b := 3) (by omega) (by omega)), hg, Option.bind_some]
    dsimp only
    rw [(lfN_m hM hW hb (c := i) (by omega) hp).1, Option.bind_some]
    dsimp only
    rw [nI_add, nI_1, ih (i + 1) _ u (by omega) (by omega), hs]
    congr 2
    congr 1
    (try dsimp only at hq ⊢)
    omega
theorem gtB {A : Ab} {ns nb : Nat} {τ : Sg} (hM : Mm A ns nb τ) (h8 : nb ≤ 8) {b : Nat} (hb : b < nb) : FX5_get ns nb τ (nI b) 0 = some (nI (A 6 b 0), τ) ∧ FX5_get ns nb τ (nI b) 1 = some (nI (A 6 b 1), τ) ∧ FX5_get ns nb τ (nI b) 6 = some (nI (A 6 b 9), τ) := by
  obtain ⟨a0, a1, -, -, -, -, a6, -⟩ := hM.2.1 b hb
  refine ⟨?_, ?_, ?_⟩
  · rw [← a0]; exact gt5 (f := 0) (by omega) (by decide)
  · rw [← a1]; exact gt5 (f := 1) (by omega) (by decide)
  · rw [← a6]; exact gt5 (f := 6) (by omega) (by decide)
theorem load5 {A : Ab} {ns nb T : Nat} {τ : Sg} (hM : Mm A ns nb τ) (hW : Wf A ns nb T) {s : Nat} (hs : s < 4) : ∀ (m i acc fuel : Nat), i + m = nb → m < fuel → LX5_load_5 ns nb (nI s) fuel (nI acc) (nI i) τ = some (nI (acc + (fb_sm (fun b => if drA A s b then ldN A b else 0) nb - fb_sm (fun b => if drA A s b then ldN A b else 0) i)), τ) := by
  have h8 := hW.2.1
  have h4 := hW.1
  have e3 : τ.1 20 0 3 = nI nb := hM.2.2.2.2.2.2.2.2.1
  intro m
  induction m with
  | zero =>
    intro i acc fuel hi hf
    obtain ⟨u, rfl⟩ : ∃ u, fuel = u + 1 := ⟨fuel - 1, by omega⟩
    have : i = nb := by omega
    subst this
    rw [LX5_load_5, e3, if_pos (nI_le (Nat.le_refl _) (by omega)), Nat.sub_self, Nat.add_zero]
  | succ m ih =>
    intro i acc fuel hi hf
    obtain ⟨u, rfl⟩ : ∃ u, fuel = u + 1 := ⟨fuel - 1, by omega⟩
    have hn : i < nb := by omega
    obtain ⟨g0, g1, g6⟩ := gtB (ns := ns) hM h8 hn
    obtain ⟨w0, -, -, -, -, -, -, -, -, w9, -⟩ := hW.2.2.2.2.1 i hn
    have hq := fb_sm_part (fun b => if drA A s b then ldN A b else 0) (i := i) (n := nb) hn
    have hs1 := fb_sm_succ (fun b => if drA A s b then ldN A b else 0) i
    (try dsimp only at hq hs1)
    rw [LX5_load_5, e3, if_neg (nI_ge (by omega) (by omega)), g0, Option.bind_some]
    dsimp only
    by_cases h0 : A 6 i 0 = s
    · rw [if_pos (congrArg nI h0), g6, Option.bind_some]
      dsimp only
      by_cases h9 : A 6 i 9 = 0
      · have hd : ¬ drA A s i = true := by unfold drA; simp [h9]
        rw [if_neg hd] at hq hs1
        rw [h9, if_pos (show nI 0 = 0 from rfl), nI_1, ih (i + 1) _ u (by omega) (by omega), hs1]
        congr 2
      · have h91 : A 6 i 9 = 1 := by omega
        have hd : drA A s i = true := by unfold drA; simp [h91, h0]
        rw [if_pos hd] at hq hs1
        have hp := plA_lt hW hn
        have l0 := (lfN_m hM hW hn (c := 0) (by omega) hp).2
        have l1 := (lfN_m hM hW hn (c := 1) (by omega) hp).2
        have l2 := (lfN_m hM hW hn (c := 2) (by omega) hp).2
        have e3 : 0 + (fb_sm (fun c => lfN A i c (plA A i)) 3 - fb_sm (fun c => lfN A i c (plA A i)) 0) = lfN A i 0 (plA A i) + lfN A i 1 (plA A i) + lfN A i 2 (plA A i) := by simp [fb_sm]
        rw [h91, if_neg (show ¬ nI 1 = 0 by decide), show LX5_load_42 ns nb (nI s) (nI acc) (nI i) 4100 0 0 τ = _ from ld42 hM hW hn (nI s) (nI acc) 3 0 0 4100 (by omega) (by omega), Option.bind_some, e3]
        dsimp only
        rw [g1, Option.bind_some]
        dsimp only
        rw [show (5 : Int32) = nI 5 from rfl, pk_div (by omega) (by omega) (by omega), nI_add, nI_add, nI_1, ih (i + 1) _ u (by omega) (by omega), hs1]
        unfold ldN at hq ⊢
        congr 2
        congr 1
        omega
    · have hd : ¬ drA A s i = true := by unfold drA; simp [h0]
      rw [if_neg hd] at hq hs1
      rw [if_neg (fun q => h0 ((nI_eq (by omega) (by omega)).mp q)), nI_1, ih (i + 1) _ u (by omega) (by omega), hs1]
      congr 2
theorem loadM {A : Ab} {ns nb T : Nat} {τ : Sg} (hM : Mm A ns nb τ) (hW : Wf A ns nb T) {s : Nat} (hs : s < 4) : FX5_load ns nb τ (nI s) = some (nI (loadA A nb s), τ) := by
  have h8 := hW.2.1
  unfold FX5_load
  rw [show LX5_load_5 ns nb (nI s) 4100 10 0 τ = _ from load5 (ns := ns) hM hW hs nb 0 10 4100 (by omega) (by omega), Option.bind_some]
  rfl
theorem drv4 {A : Ab} {ns nb T : Nat} {σ : Sg} (hC : Cm A ns nb σ) (hW : Wf A ns nb T) {s : Nat} (hs : s < 4) : ∀ (m i acc fuel : Nat), i + m = 8 → m < fuel → LX4_birdsDrivenBy_14 ns nb (nI s) fuel (nI acc) (nI i) σ = some (nI (acc + (fb_sm (fun b => if drA A s b then 1 else 0) nb - fb_sm (fun b => if drA A s b then 1 else 0) (min i nb))), σ) := by
  have h8 := hW.2.1
  intro m
  induction m with
  | zero =>
    intro i acc fuel hi hf
    obtain ⟨u, rfl⟩ : ∃ u, fuel = u + 1 := ⟨fuel - 1, by omega⟩
    have : i = 8 := by omega
    subst this
    rw [LX4_birdsDrivenBy_14, if_pos (show (8 : Int32) ≤ nI 8 by decide), Nat.min_eq_right h8, Nat.sub_self, Nat.add_zero]
  | succ m ih =>
    intro i acc fuel hi hf
    obtain ⟨u, rfl⟩ : ∃ u, fuel = u + 1 := ⟨fuel - 1, by omega⟩
    rw [LX4_birdsDrivenBy_14, if_neg (show ¬ ((8 : Int32) ≤ nI i) from nI_ge (b := 8) (by omega) (by omega)), if_neg (nI_in (by omega) (by omega)), nI_clamp (by omega), r1]
    by_cases hn : i < nb
    · have hq := fb_sm_part (fun b => if drA A s b then 1 else 0) (i := i) (n := nb) hn
      have hs1 := fb_sm_succ (fun b => if drA A s b then 1 else 0) i
      rw [iO_in hn, oc_s, if_pos hn, drivC hC hW hn hs, Option.bind_some, Nat.min_eq_left (by omega)]
      dsimp only
      (try dsimp only at hq hs1)
      by_cases hd : drA A s i = true
      · rw [if_pos hd] at hq hs1 ⊢
        rw [if_neg n10, nI_1, ih (i + 1) _ u (by omega) (by omega), Nat.min_eq_left (by omega), hs1]
        congr 2
        congr 1
        omega
      · rw [if_neg hd] at hq hs1 ⊢
        rw [if_pos rfl, ih (i + 1) _ u (by omega) (by omega), Nat.min_eq_left (by omega), hs1]
        congr 2
    · rw [iO_out hn, oc_n, ih (i + 1) acc u (by omega) (by omega), Nat.min_eq_right (by omega), Nat.min_eq_right (by omega)]
theorem told29 {A : Ab} {ns nb T : Nat} {τ : Sg} (hM : Mm A ns nb τ) (hW : Wf A ns nb T) {s : Nat} (hs : s < 4) : ∀ (m i acc fuel : Nat), i + m = nb → m < fuel → LX5_springTold_29 ns nb (nI s) fuel (nI acc) (nI i) τ = some (nI (acc + (fb_sm (fun b => if drA A s b then 1 else 0) nb - fb_sm (fun b => if drA A s b then 1 else 0) i)), τ) := by
  have h8 := hW.2.1
  have h4 := hW.1
  have e3 : τ.1 20 0 3 = nI nb := hM.2.2.2.2.2.2.2.2.1
  intro m
  induction m with
  | zero =>
    intro i acc fuel hi hf
    obtain ⟨u, rfl⟩ : ∃ u, fuel = u + 1 := ⟨fuel - 1, by omega⟩
    have : i = nb := by omega
    subst this
    rw [LX5_springTold_29, e3, if_pos (nI_le (Nat.le_refl _) (by omega)), Nat.sub_self, Nat.add_zero]
  | succ m ih =>
    intro i acc fuel hi hf
    obtain ⟨u, rfl⟩ : ∃ u, fuel = u + 1 := ⟨fuel - 1, by omega⟩
    have hn : i < nb := by omega
    obtain ⟨g0, g1, g6⟩ := gtB (ns := ns) hM h8 hn
    obtain ⟨w0, -, -, -, -, -, -, -, -, w9, -⟩ := hW.2.2.2.2.1 i hn
    have hq := fb_sm_part (fun b => if drA A s b then 1 else 0) (i := i) (n := nb) hn
    have hs1 := fb_sm_succ (fun b => if drA A s b then 1 else 0) i
    (try dsimp only at hq hs1)
    rw [LX5_springTold_29, e3, if_neg (nI_ge (by omega) (by omega)), g0, Option.bind_some]
    dsimp only
    by_cases h0 : A 6 i 0 = s
    · rw [if_pos (congrArg nI h0), g6, Option.bind_some]
      dsimp only
      rcases (show A 6 i 9 = 0 ∨ A 6 i 9 = 1 by omega) with h9 | h9
      · have hd : ¬ drA A s i = true := by unfold drA; simp [h9]
        rw [if_neg hd] at hq hs1
        rw [h9, nI_add, nI_1, ih (i + 1) _ u (by omega) (by omega), hs1]
        congr 2
      · have hd : drA A s i = true := by unfold drA; simp [h9, h0]
        rw [if_pos hd] at hq hs1
        rw [h9, nI_add, nI_1, ih (i + 1) _ u (by omega) (by omega), hs1]
        congr 2
        congr 1
        omega
    · have hd : ¬ drA A s i = true := by unfold drA; simp [h0]
      rw [if_neg hd] at hq hs1
      rw [if_neg (fun q => h0 ((nI_eq (by omega) (by omega)).mp q)), Int32.add_zero, nI_1, ih (i + 1) _ u (by omega) (by omega), hs1]
      congr 2
/-- the answer of spring -/
def sprA (A : Ab) (nb i l : Nat) : Nat := if l < 5 then A 5 i l else if l = 5 then countA A nb i else loadA A nb i
theorem toldM {A : Ab} {ns nb T : Nat} {τ : Sg} (hM : Mm A ns nb τ) (hW : Wf A ns nb T) {i l : Nat} (hi : i < 4) (hl : l < 7) : FX5_springTold ns nb τ (nI i) (nI l) = some (nI (sprA A nb i l), τ) := by
  have h8 := hW.2.1
  unfold FX5_springTold sprA
  by_cases h5 : l < 5
  · rw [if_neg (show ¬ ((5 : Int32) ≤ nI l) from nI_ge (b := 5) h5 (by omega)), if_pos h5, ← hM.1 i hi l h5, sp5 hi h5]
    rfl
  · rw [if_pos (show (5 : Int32) ≤ nI l from nI_le (a := 5) (by omega) (by omega)), if_neg h5]
    rcases (show l = 5 ∨ l = 6 by omega) with rfl | rfl
    · rw [if_neg (show ¬ nI 5 = 6 by decide), show LX5_springTold_29 ns nb (nI i) 4100 0 0 τ = _ from told29 hM hW hi nb 0 0 4100 (by omega) (by omega), Option.bind_some, Nat.zero_add]
      rfl
    · rw [if_pos (show nI 6 = 6 from rfl), loadM hM hW hi, Option.bind_some]
      rfl
theorem springC {A : Ab} {ns nb T : Nat} {σ : Sg} (hC : Cm A ns nb σ) (hW : Wf A ns nb T) (hT : T ≤ 516) {i l : Nat} (hi : i < ns) (hl : l < 7) : FX4_spring ns nb σ (nI i) (nI l) = some (.inr (nI (sprA A nb i l)), σ) := by
  have h4 := hW.1
  obtain ⟨c0, c1, c2, c3, c4⟩ := hC.1 i hi
  obtain ⟨-, -, -, b4, b5⟩ := hW.2.2.2.1.1 i hi
  unfold FX4_spring sprA
  rw [spAt_in h4 hi, Option.bind_some, oc_s, if_pos hi]
  dsimp only
  rcases (show l = 0 ∨ l = 1 ∨ l = 2 ∨ l = 3 ∨ l = 4 ∨ l = 5 ∨ l = 6 by omega) with rfl | rfl | rfl | rfl | rfl | rfl | rfl
  · rw [if_pos (show nI 0 = 0 from rfl), c0]; rfl
  · rw [if_neg (show ¬ nI 1 = 0 by decide), if_pos (show nI 1 = 1 from rfl), c1]; rfl
  · rw [if_neg (show ¬ nI 2 = 0 by decide), if_neg (show ¬ nI 2 = 1 by decide), if_pos (show nI 2 = 2 from rfl), c2, lN_i]; rfl
  · rw [if_neg (show ¬ nI 3 = 0 by decide), if_neg (show ¬ nI 3 = 1 by decide), if_neg (show ¬ nI 3 = 2 by decide), if_pos (show nI 3 = 3 from rfl), c3]; rfl
  · rw [if_neg (show ¬ nI 4 = 0 by decide), if_neg (show ¬ nI 4 = 1 by decide), if_neg (show ¬ nI 4 = 2 by decide), if_neg (show ¬ nI 4 = 3 by decide), if_pos (show nI 4 = 4 from rfl), c4]
    rcases (show A 5 i 4 = 0 ∨ A 5 i 4 = 1 by omega) with q | q <;> rw [q]
    · rw [if_pos (show nI 0 = 0 from rfl)]; rfl
    · rw [if_neg (show ¬ nI 1 = 0 by decide)]; rfl
  · rw [if_neg (show ¬ nI 5 = 0 by decide), if_neg (show ¬ nI 5 = 1 by decide), if_neg (show ¬ nI 5 = 2 by decide), if_neg (show ¬ nI 5 = 3 by decide), if_neg (show ¬ nI 5 = 4 by decide), if_pos (show nI 5 = 5 from rfl)]
    unfold FX4_birdsDrivenBy
    rw [show LX4_birdsDrivenBy_14 ns nb (nI i) 4100 0 0 σ = _ from drv4 (ns := ns) hC hW (by omega) 8 0 0 4100 (by omega) (by omega), Option.bind_some, Nat.min_eq_left (by omega), Nat.zero_add]
    rfl
  · rw [if_neg (show ¬ nI 6 = 0 by decide), if_neg (show ¬ nI 6 = 1 by decide), if_neg (show ¬ nI 6 = 2 by decide), if_neg (show ¬ nI 6 = 3 by decide), if_neg (show ¬ nI 6 = 4 by decide), if_neg (show ¬ nI 6 = 5 by decide), if_pos (show nI 6 = 6 from rfl), loadC hC hW hT (by omega)]
    rfl
theorem spring_ok (T ns nb : Nat) (σ : Sg) (a1 a2 : Int32) (hT : T < 512) (h : Inv T ns nb σ) : ∃ (k bv : Int32) (σ1 σ2 : Sg), FL_spring ns nb σ a1 a2 = some (k, σ1) ∧ FX5_spring ns nb σ1 a1 a2 = some (bv, σ2) ∧ σ2.1 20 0 0 = k ∧ (k = 0 → σ2.2 30 0 0 = bv.toInt64) ∧ Inv (T + 1) ns nb σ2 := by
  refine bothW (F5 := fun τ => FX5_spring ns nb τ a1 a2) h (fun A hC hW => ?_)
  have h4 : ns ≤ 4 := hW.1
  by_cases h1 : vp_in a1 ns
  · obtain ⟨i, hi, rfl⟩ := vp_in_of h1 (by omega)
    have head : ∀ τ, Mm A ns nb τ → FX5_isSpring ns nb (sI τ 20 0 0 0) (nI i) = some (1, sI τ 20 0 0 0) := fun τ hM => isSp_in (n := ns) (by omega) hM.2.2.2.2.2.2.2.1 hi
    rcases rngN (a := a2) (x := 0) (y := 6) (by decide) (by decide) with q | ⟨l, l1, l2, rfl⟩
    · have ne : ∀ j, j ≤ 6 → ¬ a2 = nI j := fun j hj e => by
        subst e
        exact in_rng (Nat.zero_le j) hj (by decide) q
      refine ⟨.inl 1, σ, A, ?_, frC.rf, hC, hW.up (by omega), fun τ hM => ref1 (x := 1) (y := 0) hM ?_ rfl (by decide)⟩
      · unfold FX4_spring
        rw [spAt_in h4 hi, Option.bind_some, oc_s, if_pos hi, if_neg (show ¬ a2 = 0 from ne 0 (by decide)), if_neg (show ¬ a2 = 1 from ne 1 (by decide)), if_neg (show ¬ a2 = 2 from ne 2 (by decide)), if_neg (show ¬ a2 = 3 from ne 3 (by decide)), if_neg (show ¬ a2 = 4 from ne 4 (by decide)), if_neg (show ¬ a2 = 5 from ne 5 (by decide)), if_neg (show ¬ a2 = 6 from ne 6 (by decide))]
      · (try dsimp only)
        unfold FX5_spring
        rw [head τ hM, Option.bind_some, if_neg n10, in5n (show a2 < 0 ∨ 6 < a2 from q), Option.bind_some, if_pos rfl]
    · have q := in_rng (x := 0) (y := 6) l1 l2 (by decide)
      refine ⟨_, σ, A, springC hC hW (by omega) hi (by omega), frC.rf, hC, hW.up (by omega), fun τ hM => ⟨_, sI τ 20 0 0 0, ?_, frM_I (by decide) (by decide), hM.thr 0, rfl, rfl⟩⟩
      (try dsimp only)
      unfold FX5_spring
      rw [head τ hM, Option.bind_some, if_neg n10, in5y (show ¬ (nI l < 0 ∨ 6 < nI l) from q), Option.bind_some, if_neg n10]
      dsimp only
      rw [toldM (hM.thr 0) hW (by omega) (by omega)]
      rfl
  · refine ⟨.inl 1, σ, A, ?_, frC.rf, hC, hW.up (by omega), fun τ hM => ref1 (x := 1) (y := 0) hM ?_ rfl (by decide)⟩
    · unfold FX4_spring
      rw [spAt_out h4 h1, Option.bind_some, oc_n]
    · (try dsimp only)
      unfold FX5_spring
      rw [isSp_out (n := ns) (τ := sI τ 20 0 0 0) (by omega) hM.2.2.2.2.2.2.2.1 h1, Option.bind_some, if_pos rfl]
