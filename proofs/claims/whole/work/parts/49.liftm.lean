/-! THE REFERENCE'S LIFT AT A PLACE -/
theorem bk_pt {P : Nat → Nat} {n x : Nat} : ∀ (m d : Nat), bkA P n x m d ≤ d + m ∧ d ≤ bkA P n x m d ∧ (bkA P n x m d ≠ d + m → P ((x + n - bkA P n x m d) % n) ≠ 0) := by
  intro m
  induction m with
  | zero => intro d; exact ⟨Nat.le_refl _, Nat.le_refl _, fun q => absurd rfl q⟩
  | succ m ih =>
    intro d
    rw [bkA]
    by_cases hz : P ((x + n - d) % n) = 0
    · rw [if_pos hz]
      obtain ⟨h1, h2, h3⟩ := ih (d + 1)
      exact ⟨by omega, by omega, fun q => h3 (by omega)⟩
    · rw [if_neg hz]
      exact ⟨by omega, Nat.le_refl _, fun _ => hz⟩
theorem ah_le {P : Nat → Nat} {n x : Nat} : ∀ (m d : Nat), ahA P n x m d ≤ d + m ∧ d ≤ ahA P n x m d := by
  intro m
  induction m with
  | zero => intro d; exact ⟨Nat.le_refl _, Nat.le_refl _⟩
  | succ m ih =>
    intro d
    rw [ahA]
    by_cases hz : P ((x + d) % n) = 0
    · rw [if_pos hz]
      obtain ⟨h1, h2⟩ := ih (d + 1)
      exact ⟨by omega, by omega⟩
    · rw [if_neg hz]
      exact ⟨by omega, Nat.le_refl _⟩
theorem mul_bnd {u : Int} {k : Nat} (h1 : -101 ≤ u) (h2 : u ≤ 101) (hk : k ≤ 96) : -9696 ≤ u * (k : Int) ∧ u * (k : Int) ≤ 9696 := by
  have a1 : (u * (k : Int)).natAbs ≤ 101 * 96 := by
    rw [Int.natAbs_mul]
    exact Nat.mul_le_mul (by omega) (by omega)
  omega
theorem fdiv_bnd {x : Int} {d : Nat} (h1 : -9696 ≤ x) (h2 : x ≤ 9696) (hd : 0 < d) : -9697 ≤ x.fdiv (d : Int) ∧ x.fdiv (d : Int) ≤ 9697 := by
  rw [Int.fdiv_eq_ediv_of_nonneg _ (by omega)]
  have h := Int.emod_add_mul_ediv x (d : Int)
  have m0 := Int.emod_nonneg x (b := (d : Int)) (by omega)
  have m1 := Int.emod_lt_of_pos x (b := (d : Int)) (by omega)
  constructor
  · apply Int.not_lt.mp
    intro q
    have : (d : Int) * (x / d) ≤ d * (-9698) := Int.mul_le_mul_of_nonneg_left (by omega) (by omega)
    omega
  · apply Int.not_lt.mp
    intro q
    have : (d : Int) * 9698 ≤ d * (x / d) := Int.mul_le_mul_of_nonneg_left (by omega) (by omega)
    omega
theorem liftM {A : Ab} {ns nb T : Nat} {τ : Sg} (hM : Mm A ns nb τ) (hW : Wf A ns nb T) {b c x : Nat} (hb : b < nb) (hc : c < 3) (hx : x < A 6 b 2) : ∃ r : Int32, FX5_liftAt ns nb τ (nI b) (nI c) (nI x) = some (r, τ) ∧ r.toInt = lfA (A 12 (3 * b + c)) (A 6 b 2) x := by
  have h8 := hW.2.1
  obtain ⟨w0, w1, w2, w3, -⟩ := hW.2.2.2.2.1 b hb
  have hk : 3 * b + c < 3 * nb := by omega
  obtain ⟨n, en⟩ : ∃ n, n = A 6 b 2 := ⟨_, rfl⟩
  obtain ⟨k, ek⟩ : ∃ k, k = 3 * b + c := ⟨_, rfl⟩
  rw [← en] at hx w2 w3 ⊢
  rw [← ek] at hk ⊢
  have hg : FX5_get ns nb τ (nI b) 2 = some (nI n, τ) := by
    rw [en, ← (hM.2.1 b hb).2.2.1]; exact gt5 (f := 2) (by omega) (by decide)
  have hcam : FX5_cam ns nb τ (nI b) (nI c) = some (nI (96 * k), τ) := by
    unfold FX5_cam
    rw [show (96 : Int32) = nI 96 from rfl, show (3 : Int32) = nI 3 from rfl, pk_mul, nI_add, pk_mul, ek]
  have hbk := bk5 (ns := ns) hM hW hk (by omega) w3 hx n 0 4100 (by omega) (by omega)
  obtain ⟨b1, b2, b3⟩ := bk_pt (P := A 12 k) (n := n) (x := x) n 0
  unfold FX5_liftAt
  rw [hg, Option.bind_some]
  dsimp only
  rw [hcam, Option.bind_some]
  dsimp only
  rw [show LX5_liftAt_18 ns nb (nI x) (nI n) (nI (96 * k)) 4100 0 τ = _ from hbk, Option.bind_some]
  dsimp only
  unfold lfA
  obtain ⟨bk, ebk⟩ : ∃ bk, bk = bkA (A 12 k) n x n 0 := ⟨_, rfl⟩
  rw [← ebk] at b1 b2 b3 ⊢
  by_cases hz : bk = n
  · rw [if_pos (congrArg nI hz), if_pos hz]
    exact ⟨0, rfl, rfl⟩
  · have hpt := b3 (by omega)
    have hmb : (x + n - bk) % n < n := Nat.mod_lt _ (by omega)
    have hah := ah5 (ns := ns) hM hW hk (by omega) w3 hx ⟨_, hmb, hpt⟩ (nI bk) n 1 4100 (by omega) (by omega) (by omega) (fun e h1 h2 => absurd h1 (by omega))
    obtain ⟨a1, a2⟩ := ah_le (P := A 12 k) (n := n) (x := x) n 1
    rw [if_neg (fun q => hz ((nI_eq (by omega) (by omega)).mp q)), if_neg hz, show LX5_liftAt_65 ns nb (nI x) (nI n) (nI (96 * k)) (nI bk) 4100 1 τ = _ from hah, Option.bind_some]
    dsimp only
    obtain ⟨ah, eah⟩ : ∃ ah, ah = ahA (A 12 k) n x n 1 := ⟨_, rfl⟩
    rw [← eah] at a1 a2 ⊢
    have hma : (x + ah) % n < n := Nat.mod_lt _ (by omega)
    have e1 : nI x + nI n - nI bk - (nI x + nI n - nI bk) / nI n * nI n = nI ((x + n - bk) % n) := by rw [nI_add, pk_sub (by omega), pk_rem (by omega) (by omega) (by omega)]
    have e2 : nI x + nI ah - (nI x + nI ah) / nI n * nI n = nI ((x + ah) % n) := by rw [nI_add, pk_rem (by omega) (by omega) (by omega)]
    have i1 := ix26 (nb := nb) hk h8 (y := (x + n - bk) % n) (by omega)
    have i2 := ix26 (nb := nb) hk h8 (y := (x + ah) % n) (by omega)
    have r1 := (row26 hM hW hk (y := (x + n - bk) % n) (by omega)).2
    have r2 := (row26 hM hW hk (y := (x + ah) % n) (by omega)).2
    have p1 := hW.2.2.2.2.2.2.2.1.1 k ((x + n - bk) % n)
    have p2 := hW.2.2.2.2.2.2.2.1.1 k ((x + ah) % n)
    rw [e1, e2, if_neg (nI_ne0 (by omega) (by omega)), if_neg i1.1, i1.2, if_neg (nI_ne0 (by omega) (by omega)), if_neg i2.1, i2.2, nI_add]
    have s1 : (τ.1 26 0 (96 * k + (x + ah) % n) - τ.1 26 0 (96 * k + (x + n - bk) % n)).toInt = (A 12 k ((x + ah) % n) : Int) - (A 12 k ((x + n - bk) % n) : Int) := by
      rw [fb_subI, r1, r2] <;> (try rw [r1, r2]) <;> omega
    have mb := mul_bnd (u := (A 12 k ((x + ah) % n) : Int) - (A 12 k ((x + n - bk) % n) : Int)) (k := bk) (by omega) (by omega) (by omega)
    have hbI : (nI bk).toInt = (bk : Int) := nI_toInt (by omega)
    have s2 : ((τ.1 26 0 (96 * k + (x + ah) % n) - τ.1 26 0 (96 * k + (x + n - bk) % n)) * nI bk).toInt = ((A 12 k ((x + ah) % n) : Int) - (A 12 k ((x + n - bk) % n) : Int)) * (bk : Int) := by
      rw [fb_mulI, s1, hbI] <;> rw [s1, hbI] <;> omega
    obtain ⟨f, hf1, hf2⟩ := fdiv9 (ns := ns) (nb := nb) (σ := τ) (x := (τ.1 26 0 (96 * k + (x + ah) % n) - τ.1 26 0 (96 * k + (x + n - bk) % n)) * nI bk) (d := bk + ah) (by rw [s2]; omega) (by omega) (by omega)
    rw [hf1, Option.bind_some]
    rw [s2] at hf2
    have fb := fdiv_bnd (d := bk + ah) mb.1 mb.2 (by omega)
    refine ⟨_, rfl, ?_⟩
    have ed : ((bk + ah : Nat) : Int) = (bk : Int) + (ah : Int) := by omega
    rw [ed] at hf2 fb
    rw [fb_addI, r1, hf2] <;> rw [r1, hf2] <;> omega
