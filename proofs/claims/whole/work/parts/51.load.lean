/-! THE LOAD -/
theorem ah_pt {P : Nat → Nat} {n x : Nat} (hx : x < n) (hp : ∃ y, y < n ∧ P y ≠ 0) : ∀ (m d : Nat), d + m = n + 1 → 1 ≤ d → (∀ e, 1 ≤ e → e < d → P ((x + e) % n) = 0) → P ((x + ahA P n x m d) % n) ≠ 0 := by
  intro m
  induction m with
  | zero =>
    intro d hd h1 hall
    exfalso
    obtain ⟨y, hy, hyz⟩ := hp
    by_cases c : y ≤ x
    · have : (x + (n - (x - y))) % n = y := by
        rw [show x + (n - (x - y)) = y + n by omega, Nat.add_mod_right, Nat.mod_eq_of_lt hy]
      exact hyz (this ▸ hall (n - (x - y)) (by omega) (by omega))
    · have : (x + (y - x)) % n = y := by
        rw [show x + (y - x) = y by omega, Nat.mod_eq_of_lt hy]
      exact hyz (this ▸ hall (y - x) (by omega) (by omega))
  | succ m ih =>
    intro d hd h1 hall
    rw [ahA]
    by_cases hz : P ((x + d) % n) = 0
    · rw [if_pos hz]
      refine ih (d + 1) (by omega) (by omega) (fun e h1 h2 => ?_)
      by_cases q : e = d
      · rw [q]; exact hz
      · exact hall e h1 (by omega)
    · rw [if_neg hz]; exact hz
theorem lfA_bnd {P : Nat → Nat} (hP : ∀ x, P x ≤ 101) {n x : Nat} (hx : x < n) : 0 ≤ lfA P n x ∧ lfA P n x ≤ 100 := by
  obtain ⟨b1, b2, b3⟩ := bk_pt (P := P) (n := n) (x := x) n 0
  obtain ⟨a1, a2⟩ := ah_le (P := P) (n := n) (x := x) n 1
  unfold lfA
  by_cases hz : bkA P n x n 0 = n
  · rw [if_pos hz]; omega
  · rw [if_neg hz]
    have hpt := b3 (by omega)
    have hat := ah_pt (P := P) hx ⟨_, Nat.mod_lt _ (by omega), hpt⟩ n 1 (by omega) (by omega) (fun e h1 h2 => absurd h1 (by omega))
    have p1 := hP ((x + n - bkA P n x n 0) % n)
    have p2 := hP ((x + ahA P n x n 1) % n)
    obtain ⟨bk, ebk⟩ : ∃ bk, bk = bkA P n x n 0 := ⟨_, rfl⟩
    obtain ⟨ah, eah⟩ : ∃ ah, ah = ahA P n x n 1 := ⟨_, rfl⟩
    rw [← ebk] at hpt p1 ⊢
    rw [← eah] at hat p2 a2 ⊢
    obtain ⟨u, eu⟩ : ∃ u, u = P ((x + n - bk) % n) := ⟨_, rfl⟩
    obtain ⟨v, ev⟩ : ∃ v, v = P ((x + ah) % n) := ⟨_, rfl⟩
    rw [← eu] at hpt p1 ⊢
    rw [← ev] at hat p2 ⊢
    rw [Int.fdiv_eq_ediv_of_nonneg _ (by omega)]
    have hD : (0 : Int) < (bk : Int) + (ah : Int) := by omega
    by_cases huv : u ≤ v
    · have h1 : 0 ≤ ((v : Int) - u) * (bk : Int) / ((bk : Int) + (ah : Int)) := Int.ediv_nonneg (Int.mul_nonneg (by omega) (by omega)) (by omega)
      have h2 : ((v : Int) - u) * (bk : Int) / ((bk : Int) + (ah : Int)) ≤ (v : Int) - u := Int.ediv_le_of_le_mul hD (Int.mul_le_mul_of_nonneg_left (by omega) (by omega))
      omega
    · have h1 : ((v : Int) - u) * (bk : Int) / ((bk : Int) + (ah : Int)) ≤ 0 := Int.ediv_le_of_le_mul hD (by
        rw [Int.zero_mul]
        exact Int.mul_nonpos_of_nonpos_of_nonneg (by omega) (by omega))
      have h2 : (v : Int) - u ≤ ((v : Int) - u) * (bk : Int) / ((bk : Int) + (ah : Int)) := Int.le_ediv_of_mul_le hD (Int.mul_le_mul_of_nonpos_left (by omega) (by omega))
      omega
def lfN (A : Ab) (b c x : Nat) : Nat := (lfA (A 12 (3 * b + c)) (A 6 b 2) x).toNat
def plA (A : Ab) (b : Nat) : Nat := A 6 b 11 % A 6 b 2
def ldN (A : Ab) (b : Nat) : Nat := A 6 b 1 + (lfN A b 0 (plA A b) + lfN A b 1 (plA A b) + lfN A b 2 (plA A b)) / 5
def drA (A : Ab) (s b : Nat) : Bool := decide (A 6 b 9 = 1 ∧ A 6 b 0 = s)
def loadA (A : Ab) (nb s : Nat) : Nat := 10 + fb_sm (fun b => if drA A s b then ldN A b else 0) nb
def countA (A : Ab) (nb s : Nat) : Nat := fb_sm (fun b => if drA A s b then 1 else 0) nb
theorem lfN_c {A : Ab} {ns nb T : Nat} {σ : Sg} (hC : Cm A ns nb σ) (hW : Wf A ns nb T) {b c x : Nat} (hb : b < nb) (hc : c < 3) (hx : x < A 6 b 2) : σ.1 12 (3 * b + c) x = nI (lfN A b c x) ∧ lfN A b c x ≤ 100 := by
  have h := (hC.2.2.2.2.1 b hb c hc).2.2 x hx
  have hb := lfA_bnd (P := A 12 (3 * b + c)) (fun y => hW.2.2.2.2.2.2.2.1.1 _ y) hx
  have hn : lfN A b c x ≤ 100 := by unfold lfN; omega
  refine ⟨Int32.toInt_inj.mp ?_, hn⟩
  rw [h, nI_toInt (by omega)]
  unfold lfN
  omega
theorem lfN_m {A : Ab} {ns nb T : Nat} {τ : Sg} (hM : Mm A ns nb τ) (hW : Wf A ns nb T) {b c x : Nat} (hb : b < nb) (hc : c < 3) (hx : x < A 6 b 2) : FX5_liftAt ns nb τ (nI b) (nI c) (nI x) = some (nI (lfN A b c x), τ) ∧ lfN A b c x ≤ 100 := by
  obtain ⟨r, r1, r2⟩ := liftM (ns := ns) hM hW hb hc hx
  have hb := lfA_bnd (P := A 12 (3 * b + c)) (fun y => hW.2.2.2.2.2.2.2.1.1 _ y) hx
  have hn : lfN A b c x ≤ 100 := by unfold lfN; omega
  refine ⟨?_, hn⟩
  rw [r1]
  have : r = nI (lfN A b c x) := by
    refine Int32.toInt_inj.mp ?_
    rw [r2, nI_toInt (by omega)]
    unfold lfN
    omega
  rw [this]
theorem plA_lt {A : Ab} {ns nb T b : Nat} (hW : Wf A ns nb T) (hb : b < nb) : plA A b < A 6 b 2 := Nat.mod_lt _ (by have := (hW.2.2.2.2.1 b hb).2.2.1; omega)
theorem bur4 {A : Ab} {ns nb T : Nat} {σ : Sg} (hC : Cm A ns nb σ) (hW : Wf A ns nb T) {b : Nat} (hb : b < nb) : ∀ (m i acc fuel : Nat), i + m = 3 → m < fuel → LX0_burden_19 ns nb b (nI (plA A b)) b fuel (nI acc) (nI i) σ = some (nI (acc + (fb_sm (fun c => lfN A b c (plA A b)) 3 - fb_sm (fun c => lfN A b c (plA A b)) i)), σ) := by
  have hp := plA_lt hW hb
  have w3 := (hW.2.2.2.2.1 b hb).2.2.2.1
  intro m
  induction m with
  | zero =>
    intro i acc fuel hi hf
    obtain ⟨u, rfl⟩ : ∃ u, fuel = u + 1 := ⟨fuel - 1, by omega⟩
    have : i = 3 := by omega
    subst this
    rw [LX0_burden_19, if_pos (show (3 : Int32) ≤ nI 3 by decide), Nat.sub_self, Nat.add_zero]
  | succ m ih =>
    intro i acc fuel hi hf
    obtain ⟨u, rfl⟩ : ∃ u, fuel = u + 1 := ⟨fuel - 1, by omega⟩
    have hq := fb_sm_part (fun c => lfN A b c (plA A b)) (i := i) (n := 3) (by omega)
    have hs := fb_sm_succ (fun c => lfN A b c (plA A b)) i
    rw [LX0_burden_19, if_neg (show ¬ ((3 : Int32) ≤ nI i) from nI_ge (b := 3) (by omega) (by omega)), if_neg (nI_in (by omega) (by omega)), nI_clamp (by omega), at4 (k := 12) (N := 96) rfl (by decide) (by omega), Option.bind_some]
    dsimp only
    rw [(lfN_c hC hW hb (c := i) (by omega) hp).1, nI_add, nI_1, ih (i + 1) _ u (by omega) (by omega), hs]
    congr 2
    congr 1
    (try dsimp only at hq ⊢)
    omega
theorem burdenC {A : Ab} {ns nb T : Nat} {σ : Sg} (hC : Cm A ns nb σ) (hW : Wf A ns nb T) (hT : T ≤ 516) {b : Nat} (hb : b < nb) : FX0_burden ns nb σ b = some (nI (ldN A b), σ) := by
  have h := bur4 (ns := ns) hC hW hb 3 0 0 4100 (by omega) (by omega)
  have hp := plA_lt hW hb
  have l0 := (lfN_c hC hW hb (c := 0) (by omega) hp).2
  have l1 := (lfN_c hC hW hb (c := 1) (by omega) hp).2
  have l2 := (lfN_c hC hW hb (c := 2) (by omega) hp).2
  have c1 := (hC.2.1 b hb).2.1
  have e3 : 0 + (fb_sm (fun c => lfN A b c (plA A b)) 3 - fb_sm (fun c => lfN A b c (plA A b)) 0) = lfN A b 0 (plA A b) + lfN A b 1 (plA A b) + lfN A b 2 (plA A b) := by simp [fb_sm]
  unfold FX0_burden
  rw [plNow hC hW hT hb, Option.bind_some]
  dsimp only
  rw [show LX0_burden_19 ns nb b (nI (A 6 b 11 % A 6 b 2)) b 4100 0 0 σ = _ from h, Option.bind_some, e3]
  dsimp only
  rw [c1, show (5 : Int32) = nI 5 from rfl, pk_div (by omega) (by omega) (by omega), nI_add]
  rfl
theorem drivC {A : Ab} {ns nb T : Nat} {σ : Sg} (hC : Cm A ns nb σ) (hW : Wf A ns nb T) {b s : Nat} (hb : b < nb) (hs : s < 4) : FX0_isDrivenBy ns nb σ b (nI s) = some (if drA A s b then 1 else 0, σ) := by
  obtain ⟨w0, -, -, -, -, -, -, -, -, w9, -⟩ := hW.2.2.2.2.1 b hb
  obtain ⟨c0, -, -, -, -, -, c9, -⟩ := hC.2.1 b hb
  have h4 := hW.1
  unfold FX0_isDrivenBy drA
  rw [c9, c0]
  by_cases h9 : A 6 b 9 = 0
  · rw [h9, if_pos (show nI 0 = 0 from rfl), if_neg (by simp)]
  · have h1 : A 6 b 9 = 1 := by omega
    rw [h1, if_neg (show ¬ nI 1 = 0 by decide)]
    by_cases h0 : A 6 b 0 = s
    · rw [if_pos (congrArg nI h0), if_pos (by simp [h0])]
    · rw [if_neg (fun q => h0 ((nI_eq (by omega) (by omega)).mp q)), if_neg (by simp [h0])]
theorem load4 {A : Ab} {ns nb T : Nat} {σ : Sg} (hC : Cm A ns nb σ) (hW : Wf A ns nb T) (hT : T ≤ 516) {s : Nat} (hs : s < 4) : ∀ (m i acc fuel : Nat), i + m = 8 → m < fuel → LX4_loadOn_15 ns nb (nI s) fuel (nI acc) (nI i) σ = some (nI (acc + (fb_sm (fun b => if drA A s b then ldN A b else 0) nb - fb_sm (fun b => if drA A s b then ldN A b else 0) (min i nb))), σ) := by
  have h8 := hW.2.1
  intro m
  induction m with
  | zero =>
    intro i acc fuel hi hf
    obtain ⟨u, rfl⟩ : ∃ u, fuel = u + 1 := ⟨fuel - 1, by omega⟩
    have : i = 8 := by omega
    subst this
    rw [LX4_loadOn_15, if_pos (show (8 : Int32) ≤ nI 8 by decide), Nat.min_eq_right h8, Nat.sub_self, Nat.add_zero]
  | succ m ih =>
    intro i acc fuel hi hf
    obtain ⟨u, rfl⟩ : ∃ u, fuel = u + 1 := ⟨fuel - 1, by omega⟩
    rw [LX4_loadOn_15, if_neg (show ¬ ((8 : Int32) ≤ nI i) from nI_ge (b := 8) (by omega) (by omega)), if_neg (nI_in (by omega) (by omega)), nI_clamp (by omega), r1]
    by_cases hn : i < nb
    · have hq := fb_sm_part (fun b => if drA A s b then ldN A b else 0) (i := i) (n := nb) hn
      have hs1 := fb_sm_succ (fun b => if drA A s b then ldN A b else 0) i
      rw [iO_in hn, oc_s, if_pos hn, drivC hC hW hn hs, Option.bind_some, Nat.min_eq_left (by omega)]
      dsimp only
      (try dsimp only at hq hs1)
      by_cases hd : drA A s i = true
      · rw [if_pos hd] at hq hs1 ⊢
        rw [if_neg n10, burdenC hC hW hT hn, Option.bind_some]
        dsimp only
        rw [nI_add, ih (i + 1) _ u (by omega) (by omega), Nat.min_eq_left (by omega), hs1]
        congr 2
        congr 1
        omega
      · rw [if_neg hd] at hq hs1 ⊢
        rw [if_pos rfl, ih (i + 1) _ u (by omega) (by omega), Nat.min_eq_left (by omega), hs1]
        congr 2
    · rw [iO_out hn, oc_n, ih (i + 1) acc u (by omega) (by omega), Nat.min_eq_right (by omega), Nat.min_eq_right (by omega)]
theorem loadC {A : Ab} {ns nb T : Nat} {σ : Sg} (hC : Cm A ns nb σ) (hW : Wf A ns nb T) (hT : T ≤ 516) {s : Nat} (hs : s < 4) : FX4_loadOn ns nb σ (nI s) = some (nI (loadA A nb s), σ) := by
  have h := load4 (ns := ns) hC hW hT hs 8 0 10 4100 (by omega) (by omega)
  unfold FX4_loadOn
  rw [show LX4_loadOn_15 ns nb (nI s) 4100 10 0 σ = _ from h, Option.bind_some, Nat.min_eq_left (by omega)]
  rfl
