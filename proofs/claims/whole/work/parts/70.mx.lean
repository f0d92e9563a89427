/-! THE REFERENCE'S LOAD, ALSO WHILE IT LOOKS AHEAD -/
def mPx (A : Ab) (gg : Int32) (σ : Sg) (ns nb : Nat) : Prop := σ.1 20 0 2 = nI ns ∧ σ.1 20 0 3 = nI nb ∧ σ.1 20 0 1 = nI (A 0 0 6) ∧ σ.1 20 0 13 = gg
/-- the reference's half, its songs only while it doesn't look ahead -/
def Mx (A : Ab) (ns nb : Nat) (gg : Int32) (σ : Sg) : Prop := mSp A σ ∧ mBd A σ nb ∧ mLv A σ ∧ mNt A σ nb ∧ mCm A σ nb ∧ (gg = 0 → mSg A σ) ∧ mCp A σ ∧ mPx A gg σ ns nb
theorem Mm.x {A : Ab} {ns nb : Nat} {σ : Sg} (h : Mm A ns nb σ) : Mx A ns nb 0 σ := ⟨h.1, h.2.1, h.2.2.1, h.2.2.2.1, h.2.2.2.2.1, fun _ => h.2.2.2.2.2.1, h.2.2.2.2.2.2.1, h.2.2.2.2.2.2.2⟩
theorem Mx.m {A : Ab} {ns nb : Nat} {σ : Sg} (h : Mx A ns nb 0 σ) : Mm A ns nb σ := ⟨h.1, h.2.1, h.2.2.1, h.2.2.2.1, h.2.2.2.2.1, h.2.2.2.2.2.1 rfl, h.2.2.2.2.2.2.1, h.2.2.2.2.2.2.2⟩
theorem row26X {A : Ab} {ns nb T : Nat} {τ : Sg} {gg : Int32} (hM : Mx A ns nb gg τ) (hW : Wf A ns nb T) {k y : Nat} (hk : k < 3 * nb) (hy : y < 96) : (τ.1 26 0 (96 * k + y) = -1 ↔ A 12 k y = 0) ∧ (τ.1 26 0 (96 * k + y)).toInt = (A 12 k y : Int) - 1 := by
  have h := hM.2.2.2.2.1 k hk y hy
  have hb := hW.2.2.2.2.2.2.2.1.1 k y
  have e : (τ.1 26 0 (96 * k + y)).toInt = (A 12 k y : Int) - 1 := by
    rw [h, fb_subI, nI_toInt (by omega), Int32_1] <;> rw [nI_toInt (by omega), Int32_1] <;> omega
  refine ⟨?_, e⟩
  rw [← Int32.toInt_inj, e, show (-1 : Int32).toInt = -1 by decide]
  omega
theorem bk5X {A : Ab} {ns nb T : Nat} {τ : Sg} {gg : Int32} (hM : Mx A ns nb gg τ) (hW : Wf A ns nb T) {k n x : Nat} (hk : k < 3 * nb) (hn : 0 < n) (hn2 : n ≤ 96) (hx : x < n) : ∀ (m d fuel : Nat), d + m = n → m < fuel → LX5_liftAt_18 ns nb (nI x) (nI n) (nI (96 * k)) fuel (nI d) τ = some (nI (bkA (A 12 k) n x m d), τ) := by
  have h8 := hW.2.1
  intro m
  induction m with
  | zero =>
    intro d fuel hd hf
    obtain ⟨u, rfl⟩ : ∃ u, fuel = u + 1 := ⟨fuel - 1, by omega⟩
    rw [LX5_liftAt_18, if_pos (nI_le (by omega) (by omega))]
    rfl
  | succ m ih =>
    intro d fuel hd hf
    obtain ⟨u, rfl⟩ : ∃ u, fuel = u + 1 := ⟨fuel - 1, by omega⟩
    have e1 : nI x + nI n - nI d - (nI x + nI n - nI d) / nI n * nI n = nI ((x + n - d) % n) := by rw [nI_add, pk_sub (by omega), pk_rem (by omega) hn (by omega)]
    have hm : (x + n - d) % n < 96 := Nat.lt_of_lt_of_le (Nat.mod_lt _ hn) hn2
    have hi := ix26 (nb := nb) hk h8 hm
    have hr := (row26X hM hW hk hm).1
    rw [LX5_liftAt_18, if_neg (nI_ge (by omega) (by omega)), if_neg (nI_ne0 hn (by omega)), e1, if_neg hi.1, hi.2, bkA]
    by_cases hz : A 12 k ((x + n - d) % n) = 0
    · rw [if_pos (hr.mpr hz), if_pos hz, nI_1]
      exact ih (d + 1) u (by omega) (by omega)
    · rw [if_neg (fun q => hz (hr.mp q)), if_neg hz]
theorem ah5X {A : Ab} {ns nb T : Nat} {τ : Sg} {gg : Int32} (hM : Mx A ns nb gg τ) (hW : Wf A ns nb T) {k n x : Nat} (hk : k < 3 * nb) (hn : 0 < n) (hn2 : n ≤ 96) (hx : x < n) (hp : ∃ y, y < n ∧ A 12 k y ≠ 0) (w : Int32) : ∀ (m d fuel : Nat), d + m = n + 1 → 1 ≤ d → m < fuel → (∀ e, 1 ≤ e → e < d → A 12 k ((x + e) % n) = 0) → LX5_liftAt_65 ns nb (nI x) (nI n) (nI (96 * k)) w fuel (nI d) τ = some (nI (ahA (A 12 k) n x m d), τ) := by
  have h8 := hW.2.1
  intro m
  induction m with
  | zero =>
    intro d fuel hd h1 hf hall
    exfalso
    obtain ⟨y, hy, hyz⟩ := hp
    by_cases c : y ≤ x
    · have : (x + (n - (x - y))) % n = y := by
        rw [show x + (n - (x - y)) = y + n by omega, Nat.add_mod_right, Nat.mod_eq_of_lt hy]
      exact hyz (this ▸ hall (n - (x - y)) (by omega) (by omega))
    · have : (x + (y - x)) % n = y := by
        rw [show x + (y - x) = y by omega, Nat.mod_eq_of_lt hy]
      exact hyz (this ▸ hall (y - x) (by omega) (by omega))
  | succ m ih =>
    intro d fuel hd h1 hf hall
    obtain ⟨u, rfl⟩ : ∃ u, fuel = u + 1 := ⟨fuel - 1, by omega⟩
    have e1 : nI x + nI d - (nI x + nI d) / nI n * nI n = nI ((x + d) % n) := by rw [nI_add, pk_rem (by omega) hn (by omega)]
    have hm : (x + d) % n < 96 := Nat.lt_of_lt_of_le (Nat.mod_lt _ hn) hn2
    have hi := ix26 (nb := nb) hk h8 hm
    have hr := (row26X hM hW hk hm).1
    rw [LX5_liftAt_65, if_neg (nI_ne0 hn (by omega)), e1, if_neg hi.1, hi.2, ahA]
    by_cases hz : A 12 k ((x + d) % n) = 0
    · rw [if_pos (hr.mpr hz), if_pos hz, nI_1]
      refine ih (d + 1) u (by omega) (by omega) (by omega) (fun e h1 h2 => ?_)
      by_cases q : e = d
      · rw [q]; exact hz
      · exact hall e h1 (by omega)
    · rw [if_neg (fun q => hz (hr.mp q)), if_neg hz]
theorem liftMX {A : Ab} {ns nb T : Nat} {τ : Sg} {gg : Int32} (hM : Mx A ns nb gg τ) (hW : Wf A ns nb T) {b c x : Nat} (hb : b < nb) (hc : c < 3) (hx : x < A 6 b 2) : ∃ r : Int32, FX5_liftAt ns nb τ (nI b) (nI c) (nI x) = some (r, τ) ∧ r.toInt = lfA (A 12 (3 * b + c)) (A 6 b 2) x := by
  have h8 := hW.2.1
  obtain ⟨w0, w1, w2, w3, -⟩ := hW.2.2.2.2.1 b hb
  have hk : 3 * b + c < 3 * nb := by omega
  obtain ⟨n, en⟩ : ∃ n, n = A 6 b 2 := ⟨_, rfl⟩
  obtain ⟨k, ek⟩ : ∃ k, k = 3 * b + c := ⟨_, rfl⟩
  rw [← en] at hx w2 w3 ⊢
  rw [← ek] at hk ⊢
  have hg : FX5_get ns nb τ (nI b) 2 = some (nI n, τ) := by
    rw [en, ← (hM.2.1 b hb).2.2.1]; exact gt5 (f := 2) (by omega) (by decide)
  have hcam : FX5_cam ns nb τ (nI b) (nI c) = some (nI (96 * k), τ) := by
    unfold FX5_cam
    rw [show (96 : Int32) = nI 96 from rfl, show (3 : Int32) = nI 3 from rfl, pk_mul, nI_add, pk_mul, ek]
  have hbk := bk5X (ns := ns) hM hW hk (by omega) w3 hx n 0 4100 (by omega) (by omega)
  obtain ⟨b1, b2, b3⟩ := bk_pt (P := A 12 k) (n := n) (x := x) n 0
  unfold FX5_liftAt
  rw [hg, Option.bind_some]
  dsimp only
  rw [hcam, Option.bind_some]
  dsimp only
  rw [show LX5_liftAt_18 ns nb (nI x) (nI n) (nI (96 * k)) 4100 0 τ = _ from hbk, Option.bind_some]
  dsimp only
  unfold lfA
  obtain ⟨bk, ebk⟩ : ∃ bk, bk = bkA (A 12 k) n x n 0 := ⟨_, rfl⟩
  rw [← ebk] at b1 b2 b3 ⊢
  by_cases hz : bk = n
  · rw [if_pos (congrArg nI hz), if_pos hz]
    exact ⟨0, rfl, rfl⟩
  · have hpt := b3 (by omega)
    have hmb : (x + n - bk) % n < n := Nat.mod_lt _ (by omega)
    have hah := ah5X (ns := ns) hM hW hk (by omega) w3 hx ⟨_, hmb, hpt⟩ (nI bk) n 1 4100 (by omega) (by omega) (by omega) (fun e h1 h2 => absurd h1 (by omega))
    obtain ⟨a1, a2⟩ := ah_le (P := A 12 k) (n := n) (x := x) n 1
    rw [if_neg (fun q => hz ((nI_eq (by omega) (by omega)).mp q)), if_neg hz, show LX5_liftAt_65 ns nb (nI x) (nI n) (nI (96 * k)) (nI bk) 4100 1 τ = _ from hah, Option.bind_some]
    dsimp only
    obtain ⟨ah, eah⟩ : ∃ ah, ah = ahA (A 12 k) n x n 1 := ⟨_, rfl⟩
    rw [← eah] at a1 a2 ⊢
    have hma : (x + ah) % n < n := Nat.mod_lt _ (by omega)
    have e1 : nI x + nI n - nI bk - (nI x + nI n - nI bk) / nI n * nI n = nI ((x + n - bk) % n) := by rw [nI_add, pk_sub (by omega), pk_rem (by omega) (by omega) (by omega)]
    have e2 : nI x + nI ah - (nI x + nI ah) / nI n * nI n = nI ((x + ah) % n) := by rw [nI_add, pk_rem (by omega) (by omega) (by omega)]
    have i1 := ix26 (nb := nb) hk h8 (y := (x + n - bk) % n) (by omega)
    have i2 := ix26 (nb := nb) hk h8 (y := (x + ah) % n) (by omega)
    have r1 := (row26X hM hW hk (y := (x + n - bk) % n) (by omega)).2
    have r2 := (row26X hM hW hk (y := (x + ah) % n) (by omega)).2
    have p1 := hW.2.2.2.2.2.2.2.1.1 k ((x + n - bk) % n)
    have p2 := hW.2.2.2.2.2.2.2.1.1 k ((x + ah) % n)
    rw [e1, e2, if_neg (nI_ne0 (by omega) (by omega)), if_neg i1.1, i1.2, if_neg (nI_ne0 (by omega) (by omega)), if_neg i2.1, i2.2, nI_add]
    have s1 : (τ.1 26 0 (96 * k + (x + ah) % n) - τ.1 26 0 (96 * k + (x + n - bk) % n)).toInt = (A 12 k ((x + ah) % n) : Int) - (A 12 k ((x + n - bk) % n) : Int) := by
      rw [fb_subI, r1, r2] <;> (try rw [r1, r2]) <;> omega
    have mb := mul_bnd (u := (A 12 k ((x + ah) % n) : Int) - (A 12 k ((x + n - bk) % n) : Int)) (k := bk) (by omega) (by omega) (by omega)
    have hbI : (nI bk).toInt = (bk : Int) := nI_toInt (by omega)
    have s2 : ((τ.1 26 0 (96 * k + (x + ah) % n) - τ.1 26 0 (96 * k + (x + n - bk) % n)) * nI bk).toInt = ((A 12 k ((x + ah) % n) : Int) - (A 12 k ((x + n - bk) % n) : Int)) * (bk : Int) := by
      rw [fb_mulI, s1, hbI] <;> rw [s1, hbI] <;> omega
    obtain ⟨f, hf1, hf2⟩ := fdiv9 (ns := ns) (nb := nb) (σ := τ) (x := (τ.1 26 0 (96 * k + (x + ah) % n) - τ.1 26 0 (96 * k + (x + n - bk) % n)) * nI bk) (d := bk + ah) (by rw [s2]; omega) (by omega) (by omega)
    rw [hf1, Option.bind_some]
    rw [s2] at hf2
    have fb := fdiv_bnd (d := bk + ah) mb.1 mb.2 (by omega)
    refine ⟨_, rfl, ?_⟩
    have ed : ((bk + ah : Nat) : Int) = (bk : Int) + (ah : Int) := by omega
    rw [ed] at hf2 fb
    rw [fb_addI, r1, hf2] <;> rw [r1, hf2] <;> omega
theorem lfN_mX {A : Ab} {ns nb T : Nat} {τ : Sg} {gg : Int32} (hM : Mx A ns nb gg τ) (hW : Wf A ns nb T) {b c x : Nat} (hb : b < nb) (hc : c < 3) (hx : x < A 6 b 2) : FX5_liftAt ns nb τ (nI b) (nI c) (nI x) = some (nI (lfN A b c x), τ) ∧ lfN A b c x ≤ 100 := by
  obtain ⟨r, r1, r2⟩ := liftMX (ns := ns) hM hW hb hc hx
  have hb := lfA_bnd (P := A 12 (3 * b + c)) (fun y => hW.2.2.2.2.2.2.2.1.1 _ y) hx
  have hn : lfN A b c x ≤ 100 := by unfold lfN; omega
  refine ⟨?_, hn⟩
  rw [r1]
  have : r = nI (lfN A b c x) := by
    refine Int32.toInt_inj.mp ?_
    rw [r2, nI_toInt (by omega)]
    unfold lfN
    omega
  rw [this]
theorem ld42X {A : Ab} {ns nb T : Nat} {τ : Sg} {gg : Int32} (hM : Mx A ns nb gg τ) (hW : Wf A ns nb T) {b : Nat} (hb : b < nb) (v1 v2 : Int32) : ∀ (m i acc fuel : Nat), i + m = 3 → m < fuel → LX5_load_42 ns nb v1 v2 (nI b) fuel (nI acc) (nI i) τ = some (nI (acc + (fb_sm (fun c => lfN A b c (plA A b)) 3 - fb_sm (fun c => lfN A b c (plA A b)) i)), τ) := by
  have hp := plA_lt hW hb
  have h8 := hW.2.1
  intro m
  induction m with
  | zero =>
    intro i acc fuel hi hf
    obtain ⟨u, rfl⟩ : ∃ u, fuel = u + 1 := ⟨fuel - 1, by omega⟩
    have : i = 3 := by omega
    subst this
    rw [LX5_load_42, if_pos (show (3 : Int32) ≤ nI 3 by decide), Nat.sub_self, Nat.add_zero]
  | succ m ih =>
    intro i acc fuel hi hf
    obtain ⟨u, rfl⟩ : ∃ u, fuel = u + 1 := ⟨fuel - 1, by omega⟩
    have hq := fb_sm_part (fun c => lfN A b c (plA A b)) (i := i) (n := 3) (by omega)
    have hs := fb_sm_succ (fun c => lfN A b c (plA A b)) i
    have hg : FX5_get ns nb τ (nI b) 5 = some (nI (plA A b), τ) := by
      unfold plA
      rw [← (hM.2.1 b hb).2.2.2.2.2.1]; exact gt5 (f := 5) (by omega) (by decide)
    rw [LX5_load_42, if_neg (show ¬ ((3 : Int32) ≤ nI i) from nI_ge (b := 3) (by omega) (by omega)), hg, Option.bind_some]
    dsimp only
    rw [(lfN_mX hM hW hb (c := i) (by omega) hp).1, Option.bind_some]
    dsimp only
    rw [nI_add, nI_1, ih (i + 1) _ u (by omega) (by omega), hs]
    congr 2
    congr 1
    (try dsimp only at hq ⊢)
    omega
theorem gtBX {A : Ab} {ns nb : Nat} {τ : Sg} {gg : Int32} (hM : Mx A ns nb gg τ) (h8 : nb ≤ 8) {b : Nat} (hb : b < nb) : FX5_get ns nb τ (nI b) 0 = some (nI (A 6 b 0), τ) ∧ FX5_get ns nb τ (nI b) 1 = some (nI (A 6 b 1), τ) ∧ FX5_get ns nb τ (nI b) 6 = some (nI (A 6 b 9), τ) := by
  obtain ⟨a0, a1, -, -, -, -, a6, -⟩ := hM.2.1 b hb
  refine ⟨?_, ?_, ?_⟩
  · rw [← a0]; exact gt5 (f := 0) (by omega) (by decide)
  · rw [← a1]; exact gt5 (f := 1) (by omega) (by decide)
  · rw [← a6]; exact gt5 (f := 6) (by omega) (by decide)
theorem load5X {A : Ab} {ns nb T : Nat} {τ : Sg} {gg : Int32} (hM : Mx A ns nb gg τ) (hW : Wf A ns nb T) {s : Nat} (hs : s < 4) : ∀ (m i acc fuel : Nat), i + m = nb → m < fuel → LX5_load_5 ns nb (nI s) fuel (nI acc) (nI i) τ = some (nI (acc + (fb_sm (fun b => if drA A s b then ldN A b else 0) nb - fb_sm (fun b => if drA A s b then ldN A b else 0) i)), τ) := by
  have h8 := hW.2.1
  have h4 := hW.1
  have e3 : τ.1 20 0 3 = nI nb := hM.2.2.2.2.2.2.2.2.1
  intro m
  induction m with
  | zero =>
    intro i acc fuel hi hf
    obtain ⟨u, rfl⟩ : ∃ u, fuel = u + 1 := ⟨fuel - 1, by omega⟩
    have : i = nb := by omega
    subst this
    rw [LX5_load_5, e3, if_pos (nI_le (Nat.le_refl _) (by omega)), Nat.sub_self, Nat.add_zero]
  | succ m ih =>
    intro i acc fuel hi hf
    obtain ⟨u, rfl⟩ : ∃ u, fuel = u + 1 := ⟨fuel - 1, by omega⟩
    have hn : i < nb := by omega
    obtain ⟨g0, g1, g6⟩ := gtBX (ns := ns) hM h8 hn
    obtain ⟨w0, -, -, -, -, -, -, -, -, w9, -⟩ := hW.2.2.2.2.1 i hn
    have hq := fb_sm_part (fun b => if drA A s b then ldN A b else 0) (i := i) (n := nb) hn
    have hs1 := fb_sm_succ (fun b => if drA A s b then ldN A b else 0) i
    (try dsimp only at hq hs1)
    rw [LX5_load_5, e3, if_neg (nI_ge (by omega) (by omega)), g0, Option.bind_some]
    dsimp only
    by_cases h0 : A 6 i 0 = s
    · rw [if_pos (congrArg nI h0), g6, Option.bind_some]
      dsimp only
      by_cases h9 : A 6 i 9 = 0
      · have hd : ¬ drA A s i = true := by unfold drA; simp [h9]
        rw [if_neg hd] at hq hs1
        rw [h9, if_pos (show nI 0 = 0 from rfl), nI_1, ih (i + 1) _ u (by omega) (by omega), hs1]
        congr 2
      · have h91 : A 6 i 9 = 1 := by omega
        have hd : drA A s i = true := by unfold drA; simp [h91, h0]
        rw [if_pos hd] at hq hs1
        have hp := plA_lt hW hn
        have l0 := (lfN_mX hM hW hn (c := 0) (by omega) hp).2
        have l1 := (lfN_mX hM hW hn (c := 1) (by omega) hp).2
        have l2 := (lfN_mX hM hW hn (c := 2) (by omega) hp).2
        have e3 : 0 + (fb_sm (fun c => lfN A i c (plA A i)) 3 - fb_sm (fun c => lfN A i c (plA A i)) 0) = lfN A i 0 (plA A i) + lfN A i 1 (plA A i) + lfN A i 2 (plA A i) := by simp [fb_sm]
        rw [h91, if_neg (show ¬ nI 1 = 0 by decide), show LX5_load_42 ns nb (nI s) (nI acc) (nI i) 4100 0 0 τ = _ from ld42X hM hW hn (nI s) (nI acc) 3 0 0 4100 (by omega) (by omega), Option.bind_some, e3]
        dsimp only
        rw [g1, Option.bind_some]
        dsimp only
        rw [show (5 : Int32) = nI 5 from rfl, pk_div (by omega) (by omega) (by omega), nI_add, nI_add, nI_1, ih (i + 1) _ u (by omega) (by omega), hs1]
        unfold ldN at hq ⊢
        congr 2
        congr 1
        omega
    · have hd : ¬ drA A s i = true := by unfold drA; simp [h0]
      rw [if_neg hd] at hq hs1
      rw [if_neg (fun q => h0 ((nI_eq (by omega) (by omega)).mp q)), nI_1, ih (i + 1) _ u (by omega) (by omega), hs1]
      congr 2
theorem loadMX {A : Ab} {ns nb T : Nat} {τ : Sg} {gg : Int32} (hM : Mx A ns nb gg τ) (hW : Wf A ns nb T) {s : Nat} (hs : s < 4) : FX5_load ns nb τ (nI s) = some (nI (loadA A nb s), τ) := by
  have h8 := hW.2.1
  unfold FX5_load
  rw [show LX5_load_5 ns nb (nI s) 4100 10 0 τ = _ from load5X (ns := ns) hM hW hs nb 0 10 4100 (by omega) (by omega), Option.bind_some]
  rfl
