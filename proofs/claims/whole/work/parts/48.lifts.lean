/-! THE REFERENCE'S LIFTS -/
theorem row26 {A : Ab} {ns nb T : Nat} {τ : Sg} (hM : Mm A ns nb τ) (hW : Wf A ns nb T) {k y : Nat} (hk : k < 3 * nb) (hy : y < 96) : (τ.1 26 0 (96 * k + y) = -1 ↔ A 12 k y = 0) ∧ (τ.1 26 0 (96 * k + y)).toInt = (A 12 k y : Int) - 1 := by
  have h := hM.2.2.2.2.1 k hk y hy
  have hb := hW.2.2.2.2.2.2.2.1.1 k y
  have e : (τ.1 26 0 (96 * k + y)).toInt = (A 12 k y : Int) - 1 := by
    rw [h, fb_subI, nI_toInt (by omega), Int32_1] <;> rw [nI_toInt (by omega), Int32_1] <;> omega
  refine ⟨?_, e⟩
  rw [← Int32.toInt_inj, e, show (-1 : Int32).toInt = -1 by decide]
  omega
theorem ix26 {k y nb : Nat} (hk : k < 3 * nb) (h8 : nb ≤ 8) (hy : y < 96) : ¬ ((nI (96 * k) + nI y) < 0 ∨ 2304 ≤ (nI (96 * k) + nI y).toNatClampNeg) ∧ (nI (96 * k) + nI y).toNatClampNeg = 96 * k + y := by
  rw [nI_add]
  exact ⟨nI_in (by omega) (by decide), nI_clamp (by omega)⟩
theorem bk5 {A : Ab} {ns nb T : Nat} {τ : Sg} (hM : Mm A ns nb τ) (hW : Wf A ns nb T) {k n x : Nat} (hk : k < 3 * nb) (hn : 0 < n) (hn2 : n ≤ 96) (hx : x < n) : ∀ (m d fuel : Nat), d + m = n → m < fuel → LX5_liftAt_18 ns nb (nI x) (nI n) (nI (96 * k)) fuel (nI d) τ = some (nI (bkA (A 12 k) n x m d), τ) := by
  have h8 := hW.2.1
  intro m
  induction m with
  | zero =>
    intro d fuel hd hf
    obtain ⟨u, rfl⟩ : ∃ u, fuel = u + 1 := ⟨fuel - 1, by omega⟩
    rw [LX5_liftAt_18, if_pos (nI_le (by omega) (by omega))]
    rfl
  | succ m ih =>
    intro d fuel hd hf
    obtain ⟨u, rfl⟩ : ∃ u, fuel = u + 1 := ⟨fuel - 1, by omega⟩
    have e1 : nI x + nI n - nI d - (nI x + nI n - nI d) / nI n * nI n = nI ((x + n - d) % n) := by rw [nI_add, pk_sub (by omega), pk_rem (by omega) hn (by omega)]
    have hm : (x + n - d) % n < 96 := Nat.lt_of_lt_of_le (Nat.mod_lt _ hn) hn2
    have hi := ix26 (nb := nb) hk h8 hm
    have hr := (row26 hM hW hk hm).1
    rw [LX5_liftAt_18, if_neg (nI_ge (by omega) (by omega)), if_neg (nI_ne0 hn (by omega)), e1, if_neg hi.1, hi.2, bkA]
    by_cases hz : A 12 k ((x + n - d) % n) = 0
    · rw [if_pos (hr.mpr hz), if_pos hz, nI_1]
      exact ih (d + 1) u (by omega) (by omega)
    · rw [if_neg (fun q => hz (hr.mp q)), if_neg hz]
theorem ah5 {A : Ab} {ns nb T : Nat} {τ : Sg} (hM : Mm A ns nb τ) (hW : Wf A ns nb T) {k n x : Nat} (hk : k < 3 * nb) (hn : 0 < n) (hn2 : n ≤ 96) (hx : x < n) (hp : ∃ y, y < n ∧ A 12 k y ≠ 0) (w : Int32) : ∀ (m d fuel : Nat), d + m = n + 1 → 1 ≤ d → m < fuel → (∀ e, 1 ≤ e → e < d → A 12 k ((x + e) % n) = 0) → LX5_liftAt_65 ns nb (nI x) (nI n) (nI (96 * k)) w fuel (nI d) τ = some (nI (ahA (A 12 k) n x m d), τ) := by
  have h8 := hW.2.1
  intro m
  induction m with
  | zero =>
    intro d fuel hd h1 hf hall
    exfalso
    obtain ⟨y, hy, hyz⟩ := hp
    by_cases c : y ≤ x
    · have : (x + (n - (x - y))) % n = y := by
        rw [show x + (n - (x - y)) = y + n by omega, Nat.add_mod_right, Nat.mod_eq_of_lt hy]
      exact hyz (this ▸ hall (n - (x - y)) (by omega) (by omega))
    · have : (x + (y - x)) % n = y := by
        rw [show x + (y - x) = y by omega, Nat.mod_eq_of_lt hy]
      exact hyz (this ▸ hall (y - x) (by omega) (by omega))
  | succ m ih =>
    intro d fuel hd h1 hf hall
    obtain ⟨u, rfl⟩ : ∃ u, fuel = u + 1 := ⟨fuel - 1, by omega⟩
    have e1 : nI x + nI d - (nI x + nI d) / nI n * nI n = nI ((x + d) % n) := by rw [nI_add, pk_rem (by omega) hn (by omega)]
    have hm : (x + d) % n < 96 := Nat.lt_of_lt_of_le (Nat.mod_lt _ hn) hn2
    have hi := ix26 (nb := nb) hk h8 hm
    have hr := (row26 hM hW hk hm).1
    rw [LX5_liftAt_65, if_neg (nI_ne0 hn (by omega)), e1, if_neg hi.1, hi.2, ahA]
    by_cases hz : A 12 k ((x + d) % n) = 0
    · rw [if_pos (hr.mpr hz), if_pos hz, nI_1]
      refine ih (d + 1) u (by omega) (by omega) (by omega) (fun e h1 h2 => ?_)
      by_cases q : e = d
      · rw [q]; exact hz
      · exact hall e h1 (by omega)
    · rw [if_neg (fun q => hz (hr.mp q)), if_neg hz]
theorem xorsgn (x y : Int32) (hy : 0 ≤ y.toInt) : 0 ≤ (x ^^^ y).toInt ↔ 0 ≤ x.toInt := by
  have h : (x ^^^ y).toBitVec.msb = (x.toBitVec.msb ^^ y.toBitVec.msb) := by rw [Int32.toBitVec_xor, BitVec.msb_xor]
  rw [BitVec.msb_eq_toInt, BitVec.msb_eq_toInt, BitVec.msb_eq_toInt] at h
  have h' : decide ((x ^^^ y).toInt < 0) = (decide (x.toInt < 0) ^^ decide (y.toInt < 0)) := h
  rw [show decide (y.toInt < 0) = false from decide_eq_false (by omega), Bool.xor_false] at h'
  have := decide_eq_decide.mp h'
  omega
theorem fdiv9 {ns nb : Nat} {σ : Sg} {x : Int32} {d : Nat} (hx : -100000000 ≤ x.toInt ∧ x.toInt ≤ 100000000) (hd : 0 < d) (hd2 : d < 1000) : ∃ r : Int32, FJ9_floorDiv_7cf53 ns nb σ x (nI d) = some (r, σ) ∧ r.toInt = x.toInt.fdiv (d : Int) := by
  have hdI : (nI d).toInt = (d : Int) := nI_toInt (by omega)
  have hab := Int.natAbs_tdiv_le_natAbs x.toInt (d : Int)
  have hq : (x / nI d).toInt = x.toInt.tdiv (d : Int) := by
    rw [Int32.toInt_div, hdI]
    exact fb_bmod (by omega) (by omega)
  have hf : x.toInt.fdiv (d : Int) = x.toInt / (d : Int) := Int.fdiv_eq_ediv_of_nonneg _ (by omega)
  unfold FJ9_floorDiv_7cf53
  rw [if_neg (nI_ne0 hd (by omega))]
  by_cases h0 : 0 ≤ x.toInt
  · rw [if_pos (by rw [Int32.le_iff_toInt_le, Int32_0]; exact (xorsgn _ _ (by omega)).mpr h0)]
    exact ⟨_, rfl, by rw [hq, hf, Int.tdiv_eq_ediv_of_nonneg h0]⟩
  · have hmd := Int.emod_add_mul_ediv x.toInt (d : Int)
    have hm0 := Int.emod_nonneg x.toInt (b := (d : Int)) (by omega)
    have hm1 := Int.emod_lt_of_pos x.toInt (b := (d : Int)) (by omega)
    have ht : x.toInt.tdiv (d : Int) = x.toInt / (d : Int) + if (d : Int) ∣ x.toInt then 0 else 1 := by
      rw [Int.tdiv_eq_ediv]
      by_cases hdv : (d : Int) ∣ x.toInt
      · rw [if_pos (Or.inr hdv), if_pos hdv]
      · rw [if_neg (by rintro (q | q); exact h0 q; exact hdv q), if_neg hdv, Int.sign_eq_one_of_pos (by omega)]
    have hmul : (x / nI d * nI d).toInt = x.toInt.tdiv (d : Int) * d := by
      have hb : (x.toInt.tdiv (d : Int) * d).natAbs ≤ x.toInt.natAbs := by
        have := Int.mul_tdiv_self_le (x := x.toInt.natAbs) (k := d) (by omega)
        rw [Int.natAbs_mul, Int.natAbs_tdiv]
        simp only [Int.natAbs_natCast]
        exact Nat.div_mul_le_self _ _
      rw [fb_mulI, hq, hdI] <;> rw [hq, hdI] <;> omega
    rw [if_neg (by rw [Int32.le_iff_toInt_le, Int32_0]; exact fun q => h0 ((xorsgn _ _ (by omega)).mp q))]
    by_cases he : x / nI d * nI d = x
    · rw [if_pos he]
      refine ⟨_, rfl, ?_⟩
      have hdv : (d : Int) ∣ x.toInt := by
        rw [← Int32.toInt_inj, hmul] at he
        exact ⟨x.toInt.tdiv (d : Int), by rw [Int.mul_comm]; exact he.symm⟩
      rw [hq, hf, ht, if_pos hdv, Int.add_zero]
    · rw [if_neg he]
      refine ⟨_, rfl, ?_⟩
      have hdv : ¬ (d : Int) ∣ x.toInt := by
        intro hdv
        apply he
        rw [← Int32.toInt_inj, hmul]
        exact Int.tdiv_mul_cancel hdv
      rw [fb_subI, hq, hf, ht, if_neg hdv, Int32_1] <;> (try rw [hq, Int32_1]) <;> omega
