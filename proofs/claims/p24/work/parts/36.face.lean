/-! LONGEST -/
def lgA (S : Nat → Nat) : Nat → Nat → Nat → Nat → Nat
  | 0, most, _, _ => most
  | m + 1, most, row, k => if 0 < k ∧ S k = S (k - 1) then lgA S m (max most (row + 1)) (row + 1) (k + 1) else lgA S m (max most 1) 1 (k + 1)
theorem told4 {A : Ab} {ns nb : Nat} {σ : Sg} (hC : cSg A σ) (h250 : A 3 0 1 ≤ 250) {k w : Nat} (hk : k < A 3 0 1) (hw : w < 4) : FX2_told ns nb σ (nI k) (nI w) = some (nI (A 4 0 (4 * k + w)), σ) := by
  have e4 : nI k * 4 + nI w = nI (4 * k + w) := by rw [show (4 : Int32) = nI 4 from rfl, pk_mul, nI_add, Nat.mul_comm]
  unfold FX2_told
  rw [e4, at4 (k := 4) (N := 1000) rfl (by decide) (by omega), Option.bind_some, hC.2.2 _ (by omega)]
theorem neg1_ne (n : Nat) (h : n < 2 ^ 31) : ¬ nI n = -1 := by
  intro q
  have := congrArg Int32.toInt q
  rw [nI_toInt h, show (-1 : Int32).toInt = -1 by decide] at this
  omega
theorem long4 {A : Ab} {ns nb : Nat} {σ : Sg} (hC : cSg A σ) (h250 : A 3 0 1 ≤ 250) (hs : ∀ j, j < A 3 0 1 → A 4 0 (4 * j + 1) < 8) : ∀ (m k most row fuel : Nat), k + m = A 3 0 1 → most ≤ k → row ≤ k → m < fuel → LX4_longest_9 ns nb fuel (nI most) (nI row) (if k = 0 then -1 else nI (A 4 0 (4 * (k - 1) + 1))) (nI k) σ = some (nI (lgA (fun j => A 4 0 (4 * j + 1)) m most row k), σ) := by
  intro m
  induction m with
  | zero =>
    intro k most row fuel hk h1 h2 hf
    obtain ⟨n, rfl⟩ : ∃ n, fuel = n + 1 := ⟨fuel - 1, by omega⟩
    rw [LX4_longest_9, hC.1, if_pos (nI_le (by omega) (by omega))]
    rfl
  | succ m ih =>
    intro k most row fuel hk h1 h2 hf
    obtain ⟨n, rfl⟩ : ∃ n, fuel = n + 1 := ⟨fuel - 1, by omega⟩
    have ht : FX2_told ns nb σ (nI k) 1 = some (nI (A 4 0 (4 * k + 1)), σ) := told4 hC h250 (w := 1) (by omega) (by decide)
    have s1 := hs k (by omega)
    have ek : (if k + 1 = 0 then (-1 : Int32) else nI (A 4 0 (4 * (k + 1 - 1) + 1))) = nI (A 4 0 (4 * k + 1)) := by rw [if_neg (by omega), Nat.add_sub_cancel]
    rw [LX4_longest_9, hC.1, if_neg (nI_ge (by omega) (by omega)), ht, Option.bind_some]
    (try dsimp only)
    rw [lgA]
    by_cases hc : 0 < k ∧ A 4 0 (4 * k + 1) = A 4 0 (4 * (k - 1) + 1)
    · rw [if_pos hc, if_neg (show ¬ k = 0 by omega), if_pos (congrArg nI hc.2), nI_1, nI_1, mx_nI (by omega) (by omega), ← ek]
      exact ih (k + 1) _ _ n (by omega) (by omega) (by omega) (by omega)
    · have hne : ¬ nI (A 4 0 (4 * k + 1)) = (if k = 0 then (-1 : Int32) else nI (A 4 0 (4 * (k - 1) + 1))) := by
        by_cases h0 : k = 0
        · rw [if_pos h0]; exact neg1_ne _ (by omega)
        · have s2 := hs (k - 1) (by omega)
          rw [if_neg h0, nI_eq (by omega) (by omega)]
          exact fun q => hc ⟨by omega, q⟩
      rw [if_neg hc, if_neg hne, nI_1, show mxI (nI most) 1 = nI (max most 1) from mx_nI (by omega) (by decide), ← ek]
      exact ih (k + 1) _ 1 n (by omega) (by omega) (by omega) (by omega)
/-! ADDBIRD -/
def nbA (A : Ab) (nb s w n p q : Nat) : Ab := fun k i f => if k = 6 ∧ i = nb then (if f = 0 then s else if f = 1 then w else if f = 2 then n else if f = 3 then p else if f = 4 then q else if f = 9 then 1 else if f = 10 then A 5 s 2 else 0) else if k = 8 ∧ i = nb then (if f < 6 then 60 + 2 * f else 0) else A k i f
theorem nbA_o {A : Ab} {nb s w n p q k i f : Nat} (h : ¬ ((k = 6 ∨ k = 8) ∧ i = nb)) : nbA A nb s w n p q k i f = A k i f := by
  unfold nbA
  rw [if_neg (by omega), if_neg (by omega)]
theorem bkA_0 {P : Nat → Nat} (h : ∀ x, P x = 0) (n x : Nat) : ∀ m d, bkA P n x m d = d + m := by
  intro m
  induction m with
  | zero => intro d; rfl
  | succ m ih => intro d; rw [bkA, if_pos (h _), ih]; omega
theorem ptsA_0 {P : Nat → Nat} (h : ∀ x, P x = 0) : ∀ n, ptsA P n = 0 := by
  intro n
  induction n with
  | zero => rfl
  | succ n ih => rw [ptsA, ih, if_pos (h _)]
theorem lfA_0 {P : Nat → Nat} (h : ∀ x, P x = 0) (n x : Nat) : lfA P n x = 0 := by
  unfold lfA
  rw [bkA_0 h, Nat.zero_add, if_pos rfl]
theorem ntC_v : ∀ f : Fin 6, ntC f.val = nI (60 + 2 * f.val) := by decide +kernel
theorem Cm.addB {A : Ab} {ns nb T : Nat} {σ : Sg} (h : Cm A ns nb σ) (hW : Wf A ns nb T) {s w n p q : Nat} (hn : n ≤ 96) : Cm (nbA A nb s w n p q) ns (nb + 1) (sI (sgB σ nb (nI s) (nI w) (nI n) (nI p) (nI q) (lN (A 5 s 2))) 0 0 4 (nI (nb + 1))) := by
  obtain ⟨h1, h2, h3, h4, h5, h6, h7⟩ := h
  have hl := hW.2.2.2.2.2.1.2.1
  have hc := hW.2.2.2.2.2.2.2.1.2.1
  refine ⟨h1, fun j hj => ?_, fun j hj x hx => ?_, fun j hj x hx => ?_, fun j hj c hcc => ?_, h6, ?_⟩
  · by_cases zj : j = nb
    · subst zj
      have e : ∀ f, (sI (sgB σ j (nI s) (nI w) (nI n) (nI p) (nI q) (lN (A 5 s 2))) 0 0 4 (nI (j + 1))).1 6 j f = if f = 0 then nI s else if f = 1 then nI w else if f = 2 then nI n else if f = 3 then nI p else if f = 4 then nI q else if f = 9 then 1 else 0 := fun f => if_pos ⟨rfl, rfl⟩
      have e2 : ∀ f, (sI (sgB σ j (nI s) (nI w) (nI n) (nI p) (nI q) (lN (A 5 s 2))) 0 0 4 (nI (j + 1))).2 6 j f = if f = 10 then lN (A 5 s 2) else 0 := fun f => if_pos ⟨rfl, rfl⟩
      have e3 : ∀ f, nbA A j s w n p q 6 j f = if f = 0 then s else if f = 1 then w else if f = 2 then n else if f = 3 then p else if f = 4 then q else if f = 9 then 1 else if f = 10 then A 5 s 2 else 0 := fun f => if_pos ⟨rfl, rfl⟩
      simp only [e, e2, e3]
      exact ⟨rfl, rfl, rfl, rfl, rfl, rfl, rfl, rfl, rfl, rfl⟩
    · have a := h2 j (by omega)
      have e : ∀ f, (sI (sgB σ nb (nI s) (nI w) (nI n) (nI p) (nI q) (lN (A 5 s 2))) 0 0 4 (nI (nb + 1))).1 6 j f = σ.1 6 j f := fun f => (if_neg (by omega))
      have e2 : ∀ f, (sI (sgB σ nb (nI s) (nI w) (nI n) (nI p) (nI q) (lN (A 5 s 2))) 0 0 4 (nI (nb + 1))).2 6 j f = σ.2 6 j f := fun f => if_neg (by omega)
      have e3 : ∀ f, nbA A nb s w n p q 6 j f = A 6 j f := fun f => nbA_o (by omega)
      simp only [e, e2, e3]
      exact a
  · rw [nbA_o (by omega)]
    by_cases zj : j = nb
    · subst zj
      rw [hl j (Nat.le_refl _) x]
      exact if_pos ⟨rfl, rfl⟩
    · exact (if_neg (by omega)).trans (h3 j (by omega) x hx)
  · by_cases zj : j = nb
    · subst zj
      rw [show nbA A j s w n p q 8 j x = 60 + 2 * x from (if_neg (by omega)).trans ((if_pos ⟨rfl, rfl⟩).trans (if_pos hx)), ← ntC_v ⟨x, hx⟩]
      exact if_pos ⟨rfl, rfl⟩
    · rw [nbA_o (by omega)]
      exact (if_neg (by omega)).trans (h4 j (by omega) x hx)
  · have r12 : nbA A nb s w n p q 12 (3 * j + c) = A 12 (3 * j + c) := funext fun f => nbA_o (by omega)
    rw [r12]
    by_cases zj : j = nb
    · subst zj
      have z : ∀ x, A 12 (3 * j + c) x = 0 := fun x => hc _ (by omega) x
      refine ⟨?_, fun x hx => ?_, fun x hx => ?_⟩
      · rw [ptsA_0 z]
        exact if_pos (by omega)
      · rw [z, if_pos rfl]
        exact if_pos (by omega)
      · rw [lfA_0 z, show (sI (sgB σ j (nI s) (nI w) (nI n) (nI p) (nI q) (lN (A 5 s 2))) 0 0 4 (nI (j + 1))).1 12 (3 * j + c) x = 0 from if_pos (by omega)]
        rfl
    · have a := h5 j (by omega) c hcc
      rw [nbA_o (by omega)]
      have e : ∀ k f, 10 ≤ k → k ≤ 12 → (sI (sgB σ nb (nI s) (nI w) (nI n) (nI p) (nI q) (lN (A 5 s 2))) 0 0 4 (nI (nb + 1))).1 k (3 * j + c) f = σ.1 k (3 * j + c) f := fun k f h1 h2 => (if_neg (by omega)).trans ((if_neg (by omega)).trans ((if_neg (by omega)).trans ((if_neg (by omega)).trans (if_neg (by omega)))))
      simp only [e 10 _ (by decide) (by decide), e 11 _ (by decide) (by decide), e 12 _ (by decide) (by decide)]
      exact a
  · exact ⟨h7.1, rfl, h7.2.2⟩
theorem Wf.addB {A : Ab} {ns nb T : Nat} (h : Wf A ns nb T) {s w n p q : Nat} (h8 : nb < 8) (hs : s < ns) (hw : w ≤ 20) (hn : 8 ≤ n) (hn2 : n ≤ 96) (hp : 1 ≤ p) (hp2 : p ≤ 12) (hq : 1 ≤ q) (hq2 : q ≤ 12) : Wf (nbA A nb s w n p q) ns (nb + 1) T := by
  obtain ⟨w1, w2, w3, ⟨w4, w4'⟩, w5, ⟨w6, w6', w6''⟩, w7, ⟨w8, w8', w8''⟩, w9, w10⟩ := h
  have o5 : ∀ i f, nbA A nb s w n p q 5 i f = A 5 i f := fun i f => nbA_o (by omega)
  have o7 : ∀ i f, nbA A nb s w n p q 7 i f = A 7 i f := fun i f => nbA_o (by omega)
  have o12 : ∀ i f, nbA A nb s w n p q 12 i f = A 12 i f := fun i f => nbA_o (by omega)
  have r12 : ∀ i, nbA A nb s w n p q 12 i = A 12 i := fun i => funext (o12 i)
  have o0 : nbA A nb s w n p q 0 0 6 = A 0 0 6 := nbA_o (by omega)
  have o6 : ∀ j f, j ≠ nb → nbA A nb s w n p q 6 j f = A 6 j f := fun j f hj => nbA_o (by omega)
  have e3 : ∀ f, nbA A nb s w n p q 6 nb f = if f = 0 then s else if f = 1 then w else if f = 2 then n else if f = 3 then p else if f = 4 then q else if f = 9 then 1 else if f = 10 then A 5 s 2 else 0 := fun f => if_pos ⟨rfl, rfl⟩
  refine ⟨w1, by omega, by rw [o0]; exact w3, ⟨fun i hi => by rw [o5, o5, o5, o5, o0]; exact w4 i hi, fun i hi f => by rw [o5]; exact w4' i hi f⟩, fun j hj => ?_, ⟨fun i x => by rw [o7]; exact w6 i x, fun i hi x => by rw [o7]; exact w6' i (by omega) x, fun i hi => ?_⟩, fun i x => ?_, ⟨fun k x => by rw [o12]; exact w8 k x, fun k hk x => by rw [o12]; exact w8' k (by omega) x, fun j hj c hc => ?_⟩, ⟨by rw [nbA_o (by omega)]; exact w9.1, fun j hj => ?_⟩, fun a b => by rw [nbA_o (by omega)]; exact w10 a b⟩
  · by_cases z : j = nb
    · subst z
      simp only [e3, o5]
      refine ⟨hs, hw, hn, hn2, hp, hp2, hq, hq2, Nat.zero_le _, Nat.le_refl _, Nat.le_refl _, Nat.zero_le _⟩
    · simp only [o6 j _ z, o5]
      exact w5 j (by omega)
  · by_cases z : i = nb
    · subst z
      rw [e3, fb_sm_cong (g := fun _ => 0) (fun x _ => by rw [o7, w6' i (Nat.le_refl _) x]; rfl), fb_sm_const]
      rfl
    · rw [o6 i 8 z, w6'' i (by omega)]
      exact fb_sm_cong (fun x _ => by rw [o7])
  · by_cases z : i = nb
    · subst z
      rw [show nbA A i s w n p q 8 i x = if x < 6 then 60 + 2 * x else 0 from (if_neg (by omega)).trans (if_pos ⟨rfl, rfl⟩)]
      by_cases z2 : x < 6
      · rw [if_pos z2]; omega
      · rw [if_neg z2]; omega
    · rw [nbA_o (by omega)]; exact w7 i x
  · rw [r12]
    by_cases z : j = nb
    · subst z
      have z2 : ∀ x, A 12 (3 * j + c) x = 0 := fun x => w8' _ (by omega) x
      exact ⟨fun x _ => z2 x, by rw [ptsA_0 z2]; exact Nat.zero_le _⟩
    · rw [o6 j 2 z]; exact w8'' j (by omega) c hc
  · rw [nbA_o (by omega), nbA_o (by omega)]
    rw [nbA_o (by omega)] at hj
    have := w9.2 j hj
    exact ⟨by omega, this.2⟩
theorem xorsgn (x y : Int32) (hy : 0 ≤ y.toInt) : 0 ≤ (x ^^^ y).toInt ↔ 0 ≤ x.toInt := by
  have h : (x ^^^ y).toBitVec.msb = (x.toBitVec.msb ^^ y.toBitVec.msb) := by rw [Int32.toBitVec_xor, BitVec.msb_xor]
  rw [BitVec.msb_eq_toInt, BitVec.msb_eq_toInt, BitVec.msb_eq_toInt] at h
  have h' : decide ((x ^^^ y).toInt < 0) = (decide (x.toInt < 0) ^^ decide (y.toInt < 0)) := h
  rw [show decide (y.toInt < 0) = false from decide_eq_false (by omega), Bool.xor_false] at h'
  have := decide_eq_decide.mp h'
  omega
theorem fdiv9 {ns nb : Nat} {σ : Sg} {x : Int32} {d : Nat} (hx : -100000000 ≤ x.toInt ∧ x.toInt ≤ 100000000) (hd : 0 < d) (hd2 : d < 1000) : ∃ r : Int32, FJ9_floorDiv_7cf53 ns nb σ x (nI d) = some (r, σ) ∧ r.toInt = x.toInt.fdiv (d : Int) := by
  have hdI : (nI d).toInt = (d : Int) := nI_toInt (by omega)
  have hab := Int.natAbs_tdiv_le_natAbs x.toInt (d : Int)
  have hq : (x / nI d).toInt = x.toInt.tdiv (d : Int) := by
    rw [Int32.toInt_div, hdI]
    exact fb_bmod (by omega) (by omega)
  have hf : x.toInt.fdiv (d : Int) = x.toInt / (d : Int) := Int.fdiv_eq_ediv_of_nonneg _ (by omega)
  unfold FJ9_floorDiv_7cf53
  rw [if_neg (nI_ne0 hd (by omega))]
  by_cases h0 : 0 ≤ x.toInt
  · rw [if_pos (by rw [Int32.le_iff_toInt_le, Int32_0]; exact (xorsgn _ _ (by omega)).mpr h0)]
    exact ⟨_, rfl, by rw [hq, hf, Int.tdiv_eq_ediv_of_nonneg h0]⟩
  · have hmd := Int.emod_add_mul_ediv x.toInt (d : Int)
    have hm0 := Int.emod_nonneg x.toInt (b := (d : Int)) (by omega)
    have hm1 := Int.emod_lt_of_pos x.toInt (b := (d : Int)) (by omega)
    have ht : x.toInt.tdiv (d : Int) = x.toInt / (d : Int) + if (d : Int) ∣ x.toInt then 0 else 1 := by
      rw [Int.tdiv_eq_ediv]
      by_cases hdv : (d : Int) ∣ x.toInt
      · rw [if_pos (Or.inr hdv), if_pos hdv]
      · rw [if_neg (by rintro (q | q); exact h0 q; exact hdv q), if_neg hdv, Int.sign_eq_one_of_pos (by omega)]
    have hmul : (x / nI d * nI d).toInt = x.toInt.tdiv (d : Int) * d := by
      have hb : (x.toInt.tdiv (d : Int) * d).natAbs ≤ x.toInt.natAbs := by
        have := Int.mul_tdiv_self_le (x := x.toInt.natAbs) (k := d) (by omega)
        rw [Int.natAbs_mul, Int.natAbs_tdiv]
        simp only [Int.natAbs_natCast]
        exact Nat.div_mul_le_self _ _
      rw [fb_mulI, hq, hdI] <;> rw [hq, hdI] <;> omega
    rw [if_neg (by rw [Int32.le_iff_toInt_le, Int32_0]; exact fun q => h0 ((xorsgn _ _ (by omega)).mp q))]
    by_cases he : x / nI d * nI d = x
    · rw [if_pos he]
      refine ⟨_, rfl, ?_⟩
      have hdv : (d : Int) ∣ x.toInt := by
        rw [← Int32.toInt_inj, hmul] at he
        exact ⟨x.toInt.tdiv (d : Int), by rw [Int.mul_comm]; exact he.symm⟩
      rw [hq, hf, ht, if_pos hdv, Int.add_zero]
    · rw [if_neg he]
      refine ⟨_, rfl, ?_⟩
      have hdv : ¬ (d : Int) ∣ x.toInt := by
        intro hdv
        apply he
        rw [← Int32.toInt_inj, hmul]
        exact Int.tdiv_mul_cancel hdv
      rw [fb_subI, hq, hf, ht, if_neg hdv, Int32_1] <;> (try rw [hq, Int32_1]) <;> omega
/-! THE REFERENCE'S LIFT AT A PLACE -/
theorem bk_pt {P : Nat → Nat} {n x : Nat} : ∀ (m d : Nat), bkA P n x m d ≤ d + m ∧ d ≤ bkA P n x m d ∧ (bkA P n x m d ≠ d + m → P ((x + n - bkA P n x m d) % n) ≠ 0) := by
  intro m
  induction m with
  | zero => intro d; exact ⟨Nat.le_refl _, Nat.le_refl _, fun q => absurd rfl q⟩
  | succ m ih =>
    intro d
    rw [bkA]
    by_cases hz : P ((x + n - d) % n) = 0
    · rw [if_pos hz]
      obtain ⟨h1, h2, h3⟩ := ih (d + 1)
      exact ⟨by omega, by omega, fun q => h3 (by omega)⟩
    · rw [if_neg hz]
      exact ⟨by omega, Nat.le_refl _, fun _ => hz⟩
theorem ah_le {P : Nat → Nat} {n x : Nat} : ∀ (m d : Nat), ahA P n x m d ≤ d + m ∧ d ≤ ahA P n x m d := by
  intro m
  induction m with
  | zero => intro d; exact ⟨Nat.le_refl _, Nat.le_refl _⟩
  | succ m ih =>
    intro d
    rw [ahA]
    by_cases hz : P ((x + d) % n) = 0
    · rw [if_pos hz]
      obtain ⟨h1, h2⟩ := ih (d + 1)
      exact ⟨by omega, by omega⟩
    · rw [if_neg hz]
      exact ⟨by omega, Nat.le_refl _⟩
theorem mul_bnd {u : Int} {k : Nat} (h1 : -101 ≤ u) (h2 : u ≤ 101) (hk : k ≤ 96) : -9696 ≤ u * (k : Int) ∧ u * (k : Int) ≤ 9696 := by
  have a1 : (u * (k : Int)).natAbs ≤ 101 * 96 := by
    rw [Int.natAbs_mul]
    exact Nat.mul_le_mul (by omega) (by omega)
  omega
theorem fdiv_bnd {x : Int} {d : Nat} (h1 : -9696 ≤ x) (h2 : x ≤ 9696) (hd : 0 < d) : -9697 ≤ x.fdiv (d : Int) ∧ x.fdiv (d : Int) ≤ 9697 := by
  rw [Int.fdiv_eq_ediv_of_nonneg _ (by omega)]
  have h := Int.emod_add_mul_ediv x (d : Int)
  have m0 := Int.emod_nonneg x (b := (d : Int)) (by omega)
  have m1 := Int.emod_lt_of_pos x (b := (d : Int)) (by omega)
  constructor
  · apply Int.not_lt.mp
    intro q
    have : (d : Int) * (x / d) ≤ d * (-9698) := Int.mul_le_mul_of_nonneg_left (by omega) (by omega)
    omega
  · apply Int.not_lt.mp
    intro q
    have : (d : Int) * 9698 ≤ d * (x / d) := Int.mul_le_mul_of_nonneg_left (by omega) (by omega)
    omega
/-! LIFT -/
theorem cmAt_in {ns nb b c : Nat} {σ : Sg} (hc : c < 3) : FX0_camAt ns nb σ b (nI c) = some (some (3 * b + c), σ) := by
  unfold FX0_camAt
  rw [if_neg (nI_pos (by omega)), if_neg (show ¬ ((3 : Int32) ≤ nI c) from nI_ge (b := 3) (by omega) (by omega)), if_neg (nI_in (by omega) (by omega)), nI_clamp (by omega)]
theorem m1I : (-1 : Int32).toInt = -1 := by decide
theorem n1I {n : Nat} (hn : n < 2 ^ 31) : (nI n - 1).toInt = (n : Int) - 1 := by
  rw [fb_subI, nI_toInt hn, Int32_1] <;> rw [nI_toInt hn, Int32_1] <;> omega
/-! THE LOAD -/
theorem ah_pt {P : Nat → Nat} {n x : Nat} (hx : x < n) (hp : ∃ y, y < n ∧ P y ≠ 0) : ∀ (m d : Nat), d + m = n + 1 → 1 ≤ d → (∀ e, 1 ≤ e → e < d → P ((x + e) % n) = 0) → P ((x + ahA P n x m d) % n) ≠ 0 := by
  intro m
  induction m with
  | zero =>
    intro d hd h1 hall
    exfalso
    obtain ⟨y, hy, hyz⟩ := hp
    by_cases c : y ≤ x
    · have : (x + (n - (x - y))) % n = y := by
        rw [show x + (n - (x - y)) = y + n by omega, Nat.add_mod_right, Nat.mod_eq_of_lt hy]
      exact hyz (this ▸ hall (n - (x - y)) (by omega) (by omega))
    · have : (x + (y - x)) % n = y := by
        rw [show x + (y - x) = y by omega, Nat.mod_eq_of_lt hy]
      exact hyz (this ▸ hall (y - x) (by omega) (by omega))
  | succ m ih =>
    intro d hd h1 hall
    rw [ahA]
    by_cases hz : P ((x + d) % n) = 0
    · rw [if_pos hz]
      refine ih (d + 1) (by omega) (by omega) (fun e h1 h2 => ?_)
      by_cases q : e = d
      · rw [q]; exact hz
      · exact hall e h1 (by omega)
    · rw [if_neg hz]; exact hz
theorem lfA_bnd {P : Nat → Nat} (hP : ∀ x, P x ≤ 101) {n x : Nat} (hx : x < n) : 0 ≤ lfA P n x ∧ lfA P n x ≤ 100 := by
  obtain ⟨b1, b2, b3⟩ := bk_pt (P := P) (n := n) (x := x) n 0
  obtain ⟨a1, a2⟩ := ah_le (P := P) (n := n) (x := x) n 1
  unfold lfA
  by_cases hz : bkA P n x n 0 = n
  · rw [if_pos hz]; omega
  · rw [if_neg hz]
    have hpt := b3 (by omega)
    have hat := ah_pt (P := P) hx ⟨_, Nat.mod_lt _ (by omega), hpt⟩ n 1 (by omega) (by omega) (fun e h1 h2 => absurd h1 (by omega))
    have p1 := hP ((x + n - bkA P n x n 0) % n)
    have p2 := hP ((x + ahA P n x n 1) % n)
    obtain ⟨bk, ebk⟩ : ∃ bk, bk = bkA P n x n 0 := ⟨_, rfl⟩
    obtain ⟨ah, eah⟩ : ∃ ah, ah = ahA P n x n 1 := ⟨_, rfl⟩
    rw [← ebk] at hpt p1 ⊢
    rw [← eah] at hat p2 a2 ⊢
    obtain ⟨u, eu⟩ : ∃ u, u = P ((x + n - bk) % n) := ⟨_, rfl⟩
    obtain ⟨v, ev⟩ : ∃ v, v = P ((x + ah) % n) := ⟨_, rfl⟩
    rw [← eu] at hpt p1 ⊢
    rw [← ev] at hat p2 ⊢
    rw [Int.fdiv_eq_ediv_of_nonneg _ (by omega)]
    have hD : (0 : Int) < (bk : Int) + (ah : Int) := by omega
    by_cases huv : u ≤ v
    · have h1 : 0 ≤ ((v : Int) - u) * (bk : Int) / ((bk : Int) + (ah : Int)) := Int.ediv_nonneg (Int.mul_nonneg (by omega) (by omega)) (by omega)
      have h2 : ((v : Int) - u) * (bk : Int) / ((bk : Int) + (ah : Int)) ≤ (v : Int) - u := Int.ediv_le_of_le_mul hD (Int.mul_le_mul_of_nonneg_left (by omega) (by omega))
      omega
    · have h1 : ((v : Int) - u) * (bk : Int) / ((bk : Int) + (ah : Int)) ≤ 0 := Int.ediv_le_of_le_mul hD (by
        rw [Int.zero_mul]
        exact Int.mul_nonpos_of_nonpos_of_nonneg (by omega) (by omega))
      have h2 : (v : Int) - u ≤ ((v : Int) - u) * (bk : Int) / ((bk : Int) + (ah : Int)) := Int.le_ediv_of_mul_le hD (Int.mul_le_mul_of_nonpos_left (by omega) (by omega))
      omega
def lfN (A : Ab) (b c x : Nat) : Nat := (lfA (A 12 (3 * b + c)) (A 6 b 2) x).toNat
def plA (A : Ab) (b : Nat) : Nat := A 6 b 11 % A 6 b 2
def ldN (A : Ab) (b : Nat) : Nat := A 6 b 1 + (lfN A b 0 (plA A b) + lfN A b 1 (plA A b) + lfN A b 2 (plA A b)) / 5
def drA (A : Ab) (s b : Nat) : Bool := decide (A 6 b 9 = 1 ∧ A 6 b 0 = s)
def loadA (A : Ab) (nb s : Nat) : Nat := 10 + fb_sm (fun b => if drA A s b then ldN A b else 0) nb
def countA (A : Ab) (nb s : Nat) : Nat := fb_sm (fun b => if drA A s b then 1 else 0) nb
theorem lfN_c {A : Ab} {ns nb T : Nat} {σ : Sg} (hC : Cm A ns nb σ) (hW : Wf A ns nb T) {b c x : Nat} (hb : b < nb) (hc : c < 3) (hx : x < A 6 b 2) : σ.1 12 (3 * b + c) x = nI (lfN A b c x) ∧ lfN A b c x ≤ 100 := by
  have h := (hC.2.2.2.2.1 b hb c hc).2.2 x hx
  have hb := lfA_bnd (P := A 12 (3 * b + c)) (fun y => hW.2.2.2.2.2.2.2.1.1 _ y) hx
  have hn : lfN A b c x ≤ 100 := by unfold lfN; omega
  refine ⟨Int32.toInt_inj.mp ?_, hn⟩
  rw [h, nI_toInt (by omega)]
  unfold lfN
  omega
theorem plA_lt {A : Ab} {ns nb T b : Nat} (hW : Wf A ns nb T) (hb : b < nb) : plA A b < A 6 b 2 := Nat.mod_lt _ (by have := (hW.2.2.2.2.1 b hb).2.2.1; omega)
theorem bur4 {A : Ab} {ns nb T : Nat} {σ : Sg} (hC : Cm A ns nb σ) (hW : Wf A ns nb T) {b : Nat} (hb : b < nb) : ∀ (m i acc fuel : Nat), i + m = 3 → m < fuel → LX0_burden_19 ns nb b (nI (plA A b)) b fuel (nI acc) (nI i) σ = some (nI (acc + (fb_sm (fun c => lfN A b c (plA A b)) 3 - fb_sm (fun c => lfN A b c (plA A b)) i)), σ) := by
  have hp := plA_lt hW hb
  have w3 := (hW.2.2.2.2.1 b hb).2.2.2.1
  intro m
  induction m with
  | zero =>
    intro i acc fuel hi hf
    obtain ⟨u, rfl⟩ : ∃ u, fuel = u + 1 := ⟨fuel - 1, by omega⟩
    have : i = 3 := by omega
    subst this
    rw [LX0_burden_19, if_pos (show (3 : Int32) ≤ nI 3 by decide), Nat.sub_self, Nat.add_zero]
  | succ m ih =>
    intro i acc fuel hi hf
    obtain ⟨u, rfl⟩ : ∃ u, fuel = u + 1 := ⟨fuel - 1, by omega⟩
    have hq := fb_sm_part (fun c => lfN A b c (plA A b)) (i := i) (n := 3) (by omega)
    have hs := fb_sm_succ (fun c => lfN A b c (plA A b)) i
    rw [LX0_burden_19, if_neg (show ¬ ((3 : Int32) ≤ nI i) from nI_ge (b := 3) (by omega) (by omega)), if_neg (nI_in (by omega) (by omega)), nI_clamp (by omega), at4 (k := 12) (N := 96) rfl (by decide) (by omega), Option.bind_some]
    dsimp only
    rw [(lfN_c hC hW hb (c := i) (by omega) hp).1, nI_add, nI_1, ih (i + 1) _ u (by omega) (by omega), hs]
    congr 2
    congr 1
    (try dsimp only at hq ⊢)
    omega
theorem burdenC {A : Ab} {ns nb T : Nat} {σ : Sg} (hC : Cm A ns nb σ) (hW : Wf A ns nb T) (hT : T ≤ 516) {b : Nat} (hb : b < nb) : FX0_burden ns nb σ b = some (nI (ldN A b), σ) := by
  have h := bur4 (ns := ns) hC hW hb 3 0 0 4100 (by omega) (by omega)
  have hp := plA_lt hW hb
  have l0 := (lfN_c hC hW hb (c := 0) (by omega) hp).2
  have l1 := (lfN_c hC hW hb (c := 1) (by omega) hp).2
  have l2 := (lfN_c hC hW hb (c := 2) (by omega) hp).2
  have c1 := (hC.2.1 b hb).2.1
  have e3 : 0 + (fb_sm (fun c => lfN A b c (plA A b)) 3 - fb_sm (fun c => lfN A b c (plA A b)) 0) = lfN A b 0 (plA A b) + lfN A b 1 (plA A b) + lfN A b 2 (plA A b) := by simp [fb_sm]
  unfold FX0_burden
  rw [plNow hC hW hT hb, Option.bind_some]
  dsimp only
  rw [show LX0_burden_19 ns nb b (nI (A 6 b 11 % A 6 b 2)) b 4100 0 0 σ = _ from h, Option.bind_some, e3]
  dsimp only
  rw [c1, show (5 : Int32) = nI 5 from rfl, pk_div (by omega) (by omega) (by omega), nI_add]
  rfl
theorem drivC {A : Ab} {ns nb T : Nat} {σ : Sg} (hC : Cm A ns nb σ) (hW : Wf A ns nb T) {b s : Nat} (hb : b < nb) (hs : s < 4) : FX0_isDrivenBy ns nb σ b (nI s) = some (if drA A s b then 1 else 0, σ) := by
  obtain ⟨w0, -, -, -, -, -, -, -, -, w9, -⟩ := hW.2.2.2.2.1 b hb
  obtain ⟨c0, -, -, -, -, -, c9, -⟩ := hC.2.1 b hb
  have h4 := hW.1
  unfold FX0_isDrivenBy drA
  rw [c9, c0]
  by_cases h9 : A 6 b 9 = 0
  · rw [h9, if_pos (show nI 0 = 0 from rfl), if_neg (by simp)]
  · have h1 : A 6 b 9 = 1 := by omega
    rw [h1, if_neg (show ¬ nI 1 = 0 by decide)]
    by_cases h0 : A 6 b 0 = s
    · rw [if_pos (congrArg nI h0), if_pos (by simp [h0])]
    · rw [if_neg (fun q => h0 ((nI_eq (by omega) (by omega)).mp q)), if_neg (by simp [h0])]
theorem load4 {A : Ab} {ns nb T : Nat} {σ : Sg} (hC : Cm A ns nb σ) (hW : Wf A ns nb T) (hT : T ≤ 516) {s : Nat} (hs : s < 4) : ∀ (m i acc fuel : Nat), i + m = 8 → m < fuel → LX4_loadOn_15 ns nb (nI s) fuel (nI acc) (nI i) σ = some (nI (acc + (fb_sm (fun b => if drA A s b then ldN A b else 0) nb - fb_sm (fun b => if drA A s b then ldN A b else 0) (min i nb))), σ) := by
  have h8 := hW.2.1
  intro m
  induction m with
  | zero =>
    intro i acc fuel hi hf
    obtain ⟨u, rfl⟩ : ∃ u, fuel = u + 1 := ⟨fuel - 1, by omega⟩
    have : i = 8 := by omega
    subst this
    rw [LX4_loadOn_15, if_pos (show (8 : Int32) ≤ nI 8 by decide), Nat.min_eq_right h8, Nat.sub_self, Nat.add_zero]
  | succ m ih =>
    intro i acc fuel hi hf
    obtain ⟨u, rfl⟩ : ∃ u, fuel = u + 1 := ⟨fuel - 1, by omega⟩
    rw [LX4_loadOn_15, if_neg (show ¬ ((8 : Int32) ≤ nI i) from nI_ge (b := 8) (by omega) (by omega)), if_neg (nI_in (by omega) (by omega)), nI_clamp (by omega), r1]
    by_cases hn : i < nb
    · have hq := fb_sm_part (fun b => if drA A s b then ldN A b else 0) (i := i) (n := nb) hn
      have hs1 := fb_sm_succ (fun b => if drA A s b then ldN A b else 0) i
      rw [iO_in hn, oc_s, if_pos hn, drivC hC hW hn hs, Option.bind_some, Nat.min_eq_left (by omega)]
      dsimp only
      (try dsimp only at hq hs1)
      by_cases hd : drA A s i = true
      · rw [if_pos hd] at hq hs1 ⊢
        rw [if_neg n10, burdenC hC hW hT hn, Option.bind_some]
        dsimp only
        rw [nI_add, ih (i + 1) _ u (by omega) (by omega), Nat.min_eq_left (by omega), hs1]
        congr 2
        congr 1
        omega
      · rw [if_neg hd] at hq hs1 ⊢
        rw [if_pos rfl, ih (i + 1) _ u (by omega) (by omega), Nat.min_eq_left (by omega), hs1]
        congr 2
    · rw [iO_out hn, oc_n, ih (i + 1) acc u (by omega) (by omega), Nat.min_eq_right (by omega), Nat.min_eq_right (by omega)]
theorem loadC {A : Ab} {ns nb T : Nat} {σ : Sg} (hC : Cm A ns nb σ) (hW : Wf A ns nb T) (hT : T ≤ 516) {s : Nat} (hs : s < 4) : FX4_loadOn ns nb σ (nI s) = some (nI (loadA A nb s), σ) := by
  have h := load4 (ns := ns) hC hW hT hs 8 0 10 4100 (by omega) (by omega)
  unfold FX4_loadOn
  rw [show LX4_loadOn_15 ns nb (nI s) 4100 10 0 σ = _ from h, Option.bind_some, Nat.min_eq_left (by omega)]
  rfl
theorem drv4 {A : Ab} {ns nb T : Nat} {σ : Sg} (hC : Cm A ns nb σ) (hW : Wf A ns nb T) {s : Nat} (hs : s < 4) : ∀ (m i acc fuel : Nat), i + m = 8 → m < fuel → LX4_birdsDrivenBy_14 ns nb (nI s) fuel (nI acc) (nI i) σ = some (nI (acc + (fb_sm (fun b => if drA A s b then 1 else 0) nb - fb_sm (fun b => if drA A s b then 1 else 0) (min i nb))), σ) := by
  have h8 := hW.2.1
  intro m
  induction m with
  | zero =>
    intro i acc fuel hi hf
    obtain ⟨u, rfl⟩ : ∃ u, fuel = u + 1 := ⟨fuel - 1, by omega⟩
    have : i = 8 := by omega
    subst this
    rw [LX4_birdsDrivenBy_14, if_pos (show (8 : Int32) ≤ nI 8 by decide), Nat.min_eq_right h8, Nat.sub_self, Nat.add_zero]
  | succ m ih =>
    intro i acc fuel hi hf
    obtain ⟨u, rfl⟩ : ∃ u, fuel = u + 1 := ⟨fuel - 1, by omega⟩
    rw [LX4_birdsDrivenBy_14, if_neg (show ¬ ((8 : Int32) ≤ nI i) from nI_ge (b := 8) (by omega) (by omega)), if_neg (nI_in (by omega) (by omega)), nI_clamp (by omega), r1]
    by_cases hn : i < nb
    · have hq := fb_sm_part (fun b => if drA A s b then 1 else 0) (i := i) (n := nb) hn
      have hs1 := fb_sm_succ (fun b => if drA A s b then 1 else 0) i
      rw [iO_in hn, oc_s, if_pos hn, drivC hC hW hn hs, Option.bind_some, Nat.min_eq_left (by omega)]
      dsimp only
      (try dsimp only at hq hs1)
      by_cases hd : drA A s i = true
      · rw [if_pos hd] at hq hs1 ⊢
        rw [if_neg n10, nI_1, ih (i + 1) _ u (by omega) (by omega), Nat.min_eq_left (by omega), hs1]
        congr 2
        congr 1
        omega
      · rw [if_neg hd] at hq hs1 ⊢
        rw [if_pos rfl, ih (i + 1) _ u (by omega) (by omega), Nat.min_eq_left (by omega), hs1]
        congr 2
    · rw [iO_out hn, oc_n, ih (i + 1) acc u (by omega) (by omega), Nat.min_eq_right (by omega), Nat.min_eq_right (by omega)]
/-- the answer of spring -/
def sprA (A : Ab) (nb i l : Nat) : Nat := if l < 5 then A 5 i l else if l = 5 then countA A nb i else loadA A nb i
theorem springC {A : Ab} {ns nb T : Nat} {σ : Sg} (hC : Cm A ns nb σ) (hW : Wf A ns nb T) (hT : T ≤ 516) {i l : Nat} (hi : i < ns) (hl : l < 7) : FX4_spring ns nb σ (nI i) (nI l) = some (.inr (nI (sprA A nb i l)), σ) := by
  have h4 := hW.1
  obtain ⟨c0, c1, c2, c3, c4⟩ := hC.1 i hi
  obtain ⟨-, -, -, b4, b5⟩ := hW.2.2.2.1.1 i hi
  unfold FX4_spring sprA
  rw [spAt_in h4 hi, Option.bind_some, oc_s, if_pos hi]
  dsimp only
  rcases (show l = 0 ∨ l = 1 ∨ l = 2 ∨ l = 3 ∨ l = 4 ∨ l = 5 ∨ l = 6 by omega) with rfl | rfl | rfl | rfl | rfl | rfl | rfl
  · rw [if_pos (show nI 0 = 0 from rfl), c0]; rfl
  · rw [if_neg (show ¬ nI 1 = 0 by decide), if_pos (show nI 1 = 1 from rfl), c1]; rfl
  · rw [if_neg (show ¬ nI 2 = 0 by decide), if_neg (show ¬ nI 2 = 1 by decide), if_pos (show nI 2 = 2 from rfl), c2, lN_i]; rfl
  · rw [if_neg (show ¬ nI 3 = 0 by decide), if_neg (show ¬ nI 3 = 1 by decide), if_neg (show ¬ nI 3 = 2 by decide), if_pos (show nI 3 = 3 from rfl), c3]; rfl
  · rw [if_neg (show ¬ nI 4 = 0 by decide), if_neg (show ¬ nI 4 = 1 by decide), if_neg (show ¬ nI 4 = 2 by decide), if_neg (show ¬ nI 4 = 3 by decide), if_pos (show nI 4 = 4 from rfl), c4]
    rcases (show A 5 i 4 = 0 ∨ A 5 i 4 = 1 by omega) with q | q <;> rw [q]
    · rw [if_pos (show nI 0 = 0 from rfl)]; rfl
    · rw [if_neg (show ¬ nI 1 = 0 by decide)]; rfl
  · rw [if_neg (show ¬ nI 5 = 0 by decide), if_neg (show ¬ nI 5 = 1 by decide), if_neg (show ¬ nI 5 = 2 by decide), if_neg (show ¬ nI 5 = 3 by decide), if_neg (show ¬ nI 5 = 4 by decide), if_pos (show nI 5 = 5 from rfl)]
    unfold FX4_birdsDrivenBy
    rw [show LX4_birdsDrivenBy_14 ns nb (nI i) 4100 0 0 σ = _ from drv4 (ns := ns) hC hW (by omega) 8 0 0 4100 (by omega) (by omega), Option.bind_some, Nat.min_eq_left (by omega), Nat.zero_add]
    rfl
  · rw [if_neg (show ¬ nI 6 = 0 by decide), if_neg (show ¬ nI 6 = 1 by decide), if_neg (show ¬ nI 6 = 2 by decide), if_neg (show ¬ nI 6 = 3 by decide), if_neg (show ¬ nI 6 = 4 by decide), if_neg (show ¬ nI 6 = 5 by decide), if_pos (show nI 6 = 6 from rfl), loadC hC hW hT (by omega)]
    rfl
/-! DIGEST -/
def brA (A : Ab) (b l : Nat) : Nat := if l < 5 then A 6 b l else if l = 5 then plA A b else if l = 6 then A 6 b 9 else if l = 7 then A 6 b 8 else if l = 8 then A 6 b 11 else A 6 b 12
theorem birdC {A : Ab} {ns nb T : Nat} {σ : Sg} (hC : Cm A ns nb σ) (hW : Wf A ns nb T) (hT : T ≤ 516) {b l : Nat} (hb : b < nb) (hl : l < 10) : FX4_bird ns nb σ (nI b) (nI l) = some (.inr (nI (brA A b l)), σ) := by
  have h8 : nb ≤ 8 := hW.2.1
  obtain ⟨c0, c1, c2, c3, c4, c8, c9, c10, c11, c12⟩ := hC.2.1 b hb
  unfold FX4_bird
  rw [bdAt_in h8 hb, Option.bind_some, oc_s, if_pos hb]
  dsimp only
  rcases (show l = 0 ∨ l = 1 ∨ l = 2 ∨ l = 3 ∨ l = 4 ∨ l = 5 ∨ l = 6 ∨ l = 7 ∨ l = 8 ∨ l = 9 by omega) with rfl | rfl | rfl | rfl | rfl | rfl | rfl | rfl | rfl | rfl
  · rw [if_pos (show nI 0 = 0 from rfl)]
    rw [c0]; rfl
  · rw [if_neg (show ¬ nI 1 = 0 by decide)]
    rw [if_pos (show nI 1 = 1 from rfl)]
    rw [c1]; rfl
  · rw [if_neg (show ¬ nI 2 = 0 by decide)]
    rw [if_neg (show ¬ nI 2 = 1 by decide)]
    rw [if_pos (show nI 2 = 2 from rfl)]
    rw [c2]; rfl
  · rw [if_neg (show ¬ nI 3 = 0 by decide)]
    rw [if_neg (show ¬ nI 3 = 1 by decide)]
    rw [if_neg (show ¬ nI 3 = 2 by decide)]
    rw [if_pos (show nI 3 = 3 from rfl)]
    rw [c3]; rfl
  · rw [if_neg (show ¬ nI 4 = 0 by decide)]
    rw [if_neg (show ¬ nI 4 = 1 by decide)]
    rw [if_neg (show ¬ nI 4 = 2 by decide)]
    rw [if_neg (show ¬ nI 4 = 3 by decide)]
    rw [if_pos (show nI 4 = 4 from rfl)]
    rw [c4]; rfl
  · rw [if_neg (show ¬ nI 5 = 0 by decide)]
    rw [if_neg (show ¬ nI 5 = 1 by decide)]
    rw [if_neg (show ¬ nI 5 = 2 by decide)]
    rw [if_neg (show ¬ nI 5 = 3 by decide)]
    rw [if_neg (show ¬ nI 5 = 4 by decide)]
    rw [if_pos (show nI 5 = 5 from rfl)]
    rw [plNow hC hW hT hb, Option.bind_some]; rfl
  · rw [if_neg (show ¬ nI 6 = 0 by decide)]
    rw [if_neg (show ¬ nI 6 = 1 by decide)]
    rw [if_neg (show ¬ nI 6 = 2 by decide)]
    rw [if_neg (show ¬ nI 6 = 3 by decide)]
    rw [if_neg (show ¬ nI 6 = 4 by decide)]
    rw [if_neg (show ¬ nI 6 = 5 by decide)]
    rw [if_pos (show nI 6 = 6 from rfl)]
    rw [c9]
    rcases (show A 6 b 9 = 0 ∨ A 6 b 9 = 1 by have := (hW.2.2.2.2.1 b hb).2.2.2.2.2.2.2.2.2.1; omega) with q9 | q9
    · rw [q9, if_pos (show nI 0 = 0 from rfl), show brA A b 6 = A 6 b 9 from rfl, q9]; rfl
    · rw [q9, if_neg (show ¬ nI 1 = 0 by decide), show brA A b 6 = A 6 b 9 from rfl, q9]; rfl
  · rw [if_neg (show ¬ nI 7 = 0 by decide)]
    rw [if_neg (show ¬ nI 7 = 1 by decide)]
    rw [if_neg (show ¬ nI 7 = 2 by decide)]
    rw [if_neg (show ¬ nI 7 = 3 by decide)]
    rw [if_neg (show ¬ nI 7 = 4 by decide)]
    rw [if_neg (show ¬ nI 7 = 5 by decide)]
    rw [if_neg (show ¬ nI 7 = 6 by decide)]
    rw [if_pos (show nI 7 = 7 from rfl)]
    rw [c8]; rfl
  · rw [if_neg (show ¬ nI 8 = 0 by decide)]
    rw [if_neg (show ¬ nI 8 = 1 by decide)]
    rw [if_neg (show ¬ nI 8 = 2 by decide)]
    rw [if_neg (show ¬ nI 8 = 3 by decide)]
    rw [if_neg (show ¬ nI 8 = 4 by decide)]
    rw [if_neg (show ¬ nI 8 = 5 by decide)]
    rw [if_neg (show ¬ nI 8 = 6 by decide)]
    rw [if_neg (show ¬ nI 8 = 7 by decide)]
    rw [if_pos (show nI 8 = 8 from rfl)]
    rw [c11, lN_i]; rfl
  · rw [if_neg (show ¬ nI 9 = 0 by decide)]
    rw [if_neg (show ¬ nI 9 = 1 by decide)]
    rw [if_neg (show ¬ nI 9 = 2 by decide)]
    rw [if_neg (show ¬ nI 9 = 3 by decide)]
    rw [if_neg (show ¬ nI 9 = 4 by decide)]
    rw [if_neg (show ¬ nI 9 = 5 by decide)]
    rw [if_neg (show ¬ nI 9 = 6 by decide)]
    rw [if_neg (show ¬ nI 9 = 7 by decide)]
    rw [if_neg (show ¬ nI 9 = 8 by decide)]
    rw [if_pos (show nI 9 = 9 from rfl)]
    rw [c12]; rfl
theorem liftC {A : Ab} {ns nb T : Nat} {σ : Sg} (hC : Cm A ns nb σ) (hW : Wf A ns nb T) (hT : T ≤ 516) {b c : Nat} (hb : b < nb) (hc : c < 3) : FX4_lift ns nb σ (nI b) (nI c) (-1) = some (.inr (nI (lfN A b c (plA A b))), σ) := by
  have h8 : nb ≤ 8 := hW.2.1
  have hp := plA_lt hW hb
  have w3 := (hW.2.2.2.2.1 b hb).2.2.2.1
  have hk : 3 * b + c < 3 * nb := by omega
  unfold FX4_lift
  rw [bdAt_in h8 hb, Option.bind_some, oc_s, if_pos hb]
  dsimp only
  rw [cmAt_in hc, Option.bind_some, oc_s, if_pos hk]
  dsimp only
  rw [if_pos rfl, if_pos rfl, plNow hC hW hT hb, Option.bind_some]
  dsimp only
  rw [at4 (k := 12) (N := 96) rfl (by decide) (show A 6 b 11 % A 6 b 2 < 96 from by unfold plA at hp; omega), Option.bind_some]
  dsimp only
  rw [show σ.1 12 (3 * b + c) (A 6 b 11 % A 6 b 2) = _ from (lfN_c hC hW hb hc hp).1]
theorem sungC {A : Ab} {ns nb T : Nat} {σ : Sg} (hC : Cm A ns nb σ) (hW : Wf A ns nb T) {k u : Nat} (hk : k < A 3 0 1) (hu : u < 4) : FX4_sung ns nb σ (nI k) (nI u) = some (.inr (nI (A 4 0 (4 * k + u))), σ) := by
  have h250 : A 3 0 1 ≤ 250 := hW.2.2.2.2.2.2.2.2.1.1
  have q1 : ¬ (nI k < 0 ∨ nI (A 3 0 1) - 1 < nI k) := by rw [rng0 (by omega)]; exact fun z => z (vp_in_nI hk (by omega))
  have q := in_rng (x := 0) (y := 3) (j := u) (by omega) (by omega) (by decide)
  unfold FX4_sung
  rw [hC.2.2.2.2.2.1.1, in4y q1, Option.bind_some, if_neg n10, in4y (show ¬ (nI u < 0 ∨ 3 < nI u) from q), Option.bind_some, if_neg n10]
  dsimp only
  rw [told4 hC.2.2.2.2.2.1 h250 hk hu]
  rfl
/-- what count tells -/
def cnA (A : Ab) (ns nb l : Nat) : Nat := if l = 0 then A 0 0 6 else if l = 1 then ns else if l = 2 then nb else if l = 3 then prA A else if l = 4 then A 3 0 2 else fb_sm (fun i => A 5 i 1) 4
