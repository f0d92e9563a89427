/-! THE COMPONENT'S CAM, DRAWN ANEW -/
theorem md2 {a n : Nat} (h : a < 2 * n) : (a < n ∧ a % n = a) ∨ (n ≤ a ∧ a % n = a - n) := by
  by_cases c : a < n
  · exact Or.inl ⟨c, Nat.mod_eq_of_lt c⟩
  · exact Or.inr ⟨by omega, by rw [Nat.mod_eq_sub_mod (by omega), Nat.mod_eq_of_lt (by omega)]⟩
theorem md_back {n i j e : Nat} (hi : i < n) (he : e ≤ j) (hj : j ≤ n) : ((i + j) % n + n - e) % n = (i + (j - e)) % n := by
  rcases md2 (a := i + j) (n := n) (by omega) with ⟨c, h⟩ | ⟨c, h⟩
  · rw [h]
    rcases md2 (a := i + j + n - e) (n := n) (by omega) with ⟨c2, h2⟩ | ⟨c2, h2⟩
    · omega
    · rw [h2, Nat.mod_eq_of_lt (by omega)]
      omega
  · rw [h, show i + j - n + n - e = i + (j - e) by omega]
theorem md_on {n i j e : Nat} (hi : i < n) (hj : j ≤ n) : ((i + j) % n + e) % n = (i + (j + e)) % n := by
  rw [Nat.mod_add_mod, Nat.add_assoc]
theorem ah_zero {P : Nat → Nat} {n x : Nat} : ∀ (m d e : Nat), d ≤ e → e < ahA P n x m d → P ((x + e) % n) = 0 := by
  intro m
  induction m with
  | zero => intro d e h1 h2; rw [ahA] at h2; omega
  | succ m ih =>
    intro d e h1 h2
    rw [ahA] at h2
    by_cases hz : P ((x + d) % n) = 0
    · rw [if_pos hz] at h2
      by_cases q : e = d
      · rw [q]; exact hz
      · exact ih (d + 1) e (by omega) h2
    · rw [if_neg hz] at h2
      omega
theorem ah_end {P : Nat → Nat} {n x : Nat} : ∀ (m d : Nat), ahA P n x m d = d + m ∨ P ((x + ahA P n x m d) % n) ≠ 0 := by
  intro m
  induction m with
  | zero => intro d; exact Or.inl rfl
  | succ m ih =>
    intro d
    rw [ahA]
    by_cases hz : P ((x + d) % n) = 0
    · rw [if_pos hz]
      rcases ih (d + 1) with q | q
      · exact Or.inl (by omega)
      · exact Or.inr q
    · rw [if_neg hz]; exact Or.inr hz
theorem bk_zero {P : Nat → Nat} {n x : Nat} : ∀ (m d e : Nat), d ≤ e → e < bkA P n x m d → P ((x + n - e) % n) = 0 := by
  intro m
  induction m with
  | zero => intro d e h1 h2; rw [bkA] at h2; omega
  | succ m ih =>
    intro d e h1 h2
    rw [bkA] at h2
    by_cases hz : P ((x + n - d) % n) = 0
    · rw [if_pos hz] at h2
      by_cases q : e = d
      · rw [q]; exact hz
      · exact ih (d + 1) e (by omega) h2
    · rw [if_neg hz] at h2
      omega
theorem bk_lt {P : Nat → Nat} {n x : Nat} (hx : x < n) (hp : ∃ y, y < n ∧ P y ≠ 0) : bkA P n x n 0 < n := by
  obtain ⟨b1, b2, b3⟩ := bk_pt (P := P) (n := n) (x := x) n 0
  by_cases hb : bkA P n x n 0 = n
  · exfalso
    obtain ⟨y, hy, hyz⟩ := hp
    have hz := bk_zero (P := P) (n := n) (x := x) n 0
    rw [hb] at hz
    by_cases c : y ≤ x
    · have h := hz (x - y) (by omega) (by omega)
      rw [show x + n - (x - y) = y + n by omega, Nat.add_mod_right, Nat.mod_eq_of_lt hy] at h
      exact hyz h
    · have h := hz (x + n - y) (by omega) (by omega)
      rw [show x + n - (x + n - y) = y by omega, Nat.mod_eq_of_lt hy] at h
      exact hyz h
  · omega
def srcA (P : Nat → Nat) (n x : Nat) : Nat := (x + n - bkA P n x n 0) % n
/-- a point's span -/
theorem span_of {P : Nat → Nat} {n i : Nat} (hi : i < n) (hz : P i ≠ 0) : 1 ≤ ahA P n i (n - 1) 1 ∧ ahA P n i (n - 1) 1 ≤ n ∧ (∀ e, 1 ≤ e → e < ahA P n i (n - 1) 1 → P ((i + e) % n) = 0) ∧ P ((i + ahA P n i (n - 1) 1) % n) ≠ 0 := by
  obtain ⟨a1, a2⟩ := ah_le (P := P) (n := n) (x := i) (n - 1) 1
  refine ⟨by omega, by omega, fun e h1 h2 => ah_zero _ _ e h1 h2, ?_⟩
  rcases ah_end (P := P) (n := n) (x := i) (n - 1) 1 with q | q
  · rw [q, show i + (1 + (n - 1)) = i + n by omega, Nat.add_mod_right, Nat.mod_eq_of_lt hi]
    exact hz
  · exact q
/-- where a place lies in a point's span -/
theorem in_span {P : Nat → Nat} {n i D j : Nat} (hi : i < n) (hz : P i ≠ 0) (hDn : D ≤ n) (hD : ∀ e, 1 ≤ e → e < D → P ((i + e) % n) = 0) (hE : P ((i + D) % n) ≠ 0) (h1 : 1 ≤ j) (h2 : j < D) : P ((i + j) % n) = 0 ∧ bkA P n ((i + j) % n) n 0 = j ∧ srcA P n ((i + j) % n) = i ∧ ahA P n ((i + j) % n) n 1 = D - j := by
  have hb : bkA P n ((i + j) % n) n 0 = j := by
    refine bk_char ?_ n 0 (by omega) (by omega) (fun e h3 h4 => ?_)
    · rw [md_back hi (Nat.le_refl j) (by omega), Nat.sub_self, Nat.add_zero, Nat.mod_eq_of_lt hi]
      exact hz
    · rw [md_back hi (by omega) (by omega)]
      exact hD (j - e) (by omega) (by omega)
  refine ⟨hD j h1 h2, hb, ?_, ?_⟩
  · unfold srcA
    rw [hb, md_back hi (Nat.le_refl j) (by omega), Nat.sub_self, Nat.add_zero, Nat.mod_eq_of_lt hi]
  · refine ah_char ?_ n 1 (by omega) (by omega) (fun e h3 h4 => ?_)
    · rw [md_on hi (by omega), show j + (D - j) = D by omega]
      exact hE
    · rw [md_on hi (by omega)]
      exact hD (j + e) (by omega) (by omega)
/-- a place without a point lies in the span of its source -/
theorem src_span {P : Nat → Nat} {n x : Nat} (hx : x < n) (hx0 : P x = 0) (hp : ∃ y, y < n ∧ P y ≠ 0) : srcA P n x < n ∧ P (srcA P n x) ≠ 0 ∧ ∃ j, 1 ≤ j ∧ j < ahA P n (srcA P n x) (n - 1) 1 ∧ x = (srcA P n x + j) % n := by
  obtain ⟨b1, b2, b3⟩ := bk_pt (P := P) (n := n) (x := x) n 0
  have hb := bk_lt hx hp
  have hz := bk_zero (P := P) (n := n) (x := x) n 0
  obtain ⟨b, eb⟩ : ∃ b, b = bkA P n x n 0 := ⟨_, rfl⟩
  have hs : srcA P n x = (x + n - b) % n := by rw [eb]; rfl
  rw [← eb] at b1 b2 b3 hb hz
  have hpt := b3 (by omega)
  have hmod : (x + n - b) % n < n := Nat.mod_lt _ (by omega)
  have hb0 : b ≠ 0 := by
    intro q
    rw [q, Nat.sub_zero, Nat.add_mod_right, Nat.mod_eq_of_lt hx] at hpt
    exact hpt hx0
  rw [hs]
  obtain ⟨d1, d2, d3, d4⟩ := span_of hmod hpt
  have back : ∀ j, j ≤ b → ((x + n - b) % n + j) % n = (x + n - (b - j)) % n := by
    intro j hj
    rw [Nat.mod_add_mod, show x + n - b + j = x + n - (b - j) by omega]
  refine ⟨hmod, hpt, b, by omega, ?_, ?_⟩
  · apply Nat.lt_of_not_le
    intro q
    apply d4
    rw [back _ q]
    exact hz _ (Nat.zero_le _) (by omega)
  · rw [back b (Nat.le_refl _), Nat.sub_self, Nat.sub_zero, Nat.add_mod_right, Nat.mod_eq_of_lt hx]
theorem lf_pt {P : Nat → Nat} {n x : Nat} (hx : x < n) (hz : P x ≠ 0) : lfA P n x = (P x : Int) - 1 := by
  have hb : bkA P n x n 0 = 0 := by
    refine bk_char ?_ n 0 (Nat.le_refl _) (by omega) (fun e h3 h4 => by omega)
    rw [Nat.sub_zero, Nat.add_mod_right, Nat.mod_eq_of_lt hx]
    exact hz
  unfold lfA
  rw [hb, if_neg (by omega), Nat.sub_zero, Nat.add_mod_right, Nat.mod_eq_of_lt hx]
  simp
theorem lf_none {P : Nat → Nat} {n x : Nat} (hP : ∀ y, y < n → P y = 0) (hx : x < n) : lfA P n x = 0 := by
  obtain ⟨b1, b2, b3⟩ := bk_pt (P := P) (n := n) (x := x) n 0
  unfold lfA
  by_cases hz : bkA P n x n 0 = n
  · rw [if_pos hz]
  · exact absurd (hP _ (Nat.mod_lt _ (by omega))) (b3 (by omega))
/-- the drawing, with a point -/
theorem draw4 {ns nb k n : Nat} {P : Nat → Nat} (hn : 0 < n) (hn2 : n ≤ 96) (hP : ∀ x, P x ≤ 101) (hp : ∃ y, y < n ∧ P y ≠ 0) : ∀ (m i fuel : Nat) (σ : Sg), i + m = n → m < fuel → (∀ x, x < 96 → σ.1 11 k x = if P x = 0 then 0 else 1) → ¬ σ.1 10 k 2 = 0 → (∀ x, x < n → P x ≠ 0 → (σ.1 12 k x).toInt = (P x : Int) - 1) → (∀ x, x < n → P x = 0 → srcA P n x < i → (σ.1 12 k x).toInt = lfA P n x) → ∃ σ' : Sg, LX1_draw_2 ns nb k (nI n) fuel (nI i) σ = some σ' ∧ σ'.2 = σ.2 ∧ (∀ k' j' f', ¬ (k' = 12 ∧ j' = k) → σ'.1 k' j' f' = σ.1 k' j' f') ∧ ∀ x, x < n → (σ'.1 12 k x).toInt = lfA P n x := by
  intro m
  induction m with
  | zero =>
    intro i fuel σ hi hf hm hpt hq hl
    obtain ⟨u, rfl⟩ : ∃ u, fuel = u + 1 := ⟨fuel - 1, by omega⟩
    refine ⟨σ, by rw [LX1_draw_2, if_pos (nI_le (by omega) (by omega))], rfl, fun _ _ _ _ => rfl, fun x hx => ?_⟩
    by_cases hz : P x = 0
    · exact hl x hx hz (by have := (src_span hx hz hp).1; omega)
    · rw [hq x hx hz, lf_pt hx hz]
  | succ m ih =>
    intro i fuel σ hi hf hm hpt hq hl
    obtain ⟨u, rfl⟩ : ∃ u, fuel = u + 1 := ⟨fuel - 1, by omega⟩
    have hin : i < n := by omega
    rw [LX1_draw_2, if_neg (nI_ge (by omega) (by omega)), hasP hm (by omega), Option.bind_some]
    dsimp only
    by_cases hz : P i = 0
    · rw [if_pos hz, if_pos rfl, if_neg hpt, nI_1]
      refine ih (i + 1) u σ (by omega) (by omega) hm hpt hq (fun x hx h0 hs => ?_)
      have hne : srcA P n x ≠ i := fun q => (src_span hx h0 hp).2.1 (q ▸ hz)
      exact hl x hx h0 (by omega)
    · have hPi := hP i
      obtain ⟨d1, d2, d3, d4⟩ := span_of hin hz
      have hPe := hP ((i + ahA P n i (n - 1) 1) % n)
      have hF := hq i hin hz
      have hG := hq _ (Nat.mod_lt _ hn) d4
      obtain ⟨σ1, r1, r2, r3, r4, r5⟩ := behind4 (ns := ns) (nb := nb) (k := k) (P := P) hm hn hn2 hin (by omega) (by omega)
      rw [if_neg hz, if_neg n10, r1, Option.bind_some, nI_1]
      have a1 : ∀ x, x < n → P x ≠ 0 → (σ1.1 12 k x).toInt = (P x : Int) - 1 := by
        intro x hx h0
        rw [r5 x (fun j h1 h2 q => h0 (q ▸ d3 j h1 h2))]
        exact hq x hx h0
      have a2 : ∀ x, x < n → P x = 0 → srcA P n x < i + 1 → (σ1.1 12 k x).toInt = lfA P n x := by
        intro x hx h0 hs
        obtain ⟨s1, s2, j, j1, j2, j3⟩ := src_span hx h0 hp
        by_cases hsi : srcA P n x = i
        · rw [hsi] at j2 j3
          obtain ⟨i1, i2, i3, i4⟩ := in_span hin hz d2 d3 d4 j1 j2
          rw [j3, r4 j j1 j2, hF, hG]
          unfold lfA
          rw [i2, i4, if_neg (by omega), md_back hin (Nat.le_refl j) (by omega), Nat.sub_self, Nat.add_zero, Nat.mod_eq_of_lt hin, md_on hin (by omega), show j + (ahA P n i (n - 1) 1 - j) = ahA P n i (n - 1) 1 by omega]
          have e1 : (j : Int) + ((ahA P n i (n - 1) 1 - j : Nat) : Int) = (ahA P n i (n - 1) 1 : Int) := by omega
          have e2 : ((P ((i + ahA P n i (n - 1) 1) % n) : Int) - 1) - ((P i : Int) - 1) = (P ((i + ahA P n i (n - 1) 1) % n) : Int) - (P i : Int) := by omega
          rw [e1, e2]
        · have hne : ∀ j', 1 ≤ j' → j' < ahA P n i (n - 1) 1 → x ≠ (i + j') % n := by
            intro j' h1 h2 q
            have := (in_span hin hz d2 d3 d4 h1 h2).2.2.1
            rw [← q] at this
            exact hsi this
          rw [r5 x hne]
          exact hl x hx h0 (by omega)
      obtain ⟨σ', t1, t2, t3, t4⟩ := ih (i + 1) u σ1 (by omega) (by omega) (fun x hx => by rw [r3 11 k x (by omega)]; exact hm x hx) (by rw [r3 10 k 2 (by omega)]; exact hpt) a1 a2
      exact ⟨σ', t1, t2.trans r2, fun k' j' f' h => (t3 k' j' f' h).trans (r3 k' j' f' h), t4⟩
/-- the drawing, without points -/
theorem draw0 {ns nb k n : Nat} {P : Nat → Nat} (hn2 : n ≤ 96) (hP : ∀ x, x < n → P x = 0) : ∀ (m i fuel : Nat) (σ : Sg), i + m = n → m < fuel → (∀ x, x < 96 → σ.1 11 k x = if P x = 0 then 0 else 1) → σ.1 10 k 2 = 0 → (∀ x, x < i → σ.1 12 k x = 0) → ∃ σ' : Sg, LX1_draw_2 ns nb k (nI n) fuel (nI i) σ = some σ' ∧ σ'.2 = σ.2 ∧ (∀ k' j' f', ¬ (k' = 12 ∧ j' = k) → σ'.1 k' j' f' = σ.1 k' j' f') ∧ ∀ x, x < n → σ'.1 12 k x = 0 := by
  intro m
  induction m with
  | zero =>
    intro i fuel σ hi hf hm hpt hl
    obtain ⟨u, rfl⟩ : ∃ u, fuel = u + 1 := ⟨fuel - 1, by omega⟩
    exact ⟨σ, by rw [LX1_draw_2, if_pos (nI_le (by omega) (by omega))], rfl, fun _ _ _ _ => rfl, fun x hx => hl x (by omega)⟩
  | succ m ih =>
    intro i fuel σ hi hf hm hpt hl
    obtain ⟨u, rfl⟩ : ∃ u, fuel = u + 1 := ⟨fuel - 1, by omega⟩
    rw [LX1_draw_2, if_neg (nI_ge (by omega) (by omega)), hasP hm (by omega), Option.bind_some]
    dsimp only
    rw [if_pos (hP i (by omega)), if_pos rfl, if_pos hpt, put4 (k := 12) (N := 96) rfl (by decide) (by omega), Option.bind_some, nI_1]
    have a1 : ∀ x, x < i + 1 → (sI σ 12 k i 0).1 12 k x = 0 := by
      intro x hx
      rw [sI_eq]
      by_cases q : x = i
      · rw [if_pos ⟨rfl, rfl, q⟩]
      · rw [if_neg (fun z => q z.2.2)]
        exact hl x (by omega)
    obtain ⟨σ', t1, t2, t3, t4⟩ := ih (i + 1) u (sI σ 12 k i 0) (by omega) (by omega) (fun x hx => hm x hx) hpt a1
    exact ⟨σ', t1, t2, fun k' j' f' h => (t3 k' j' f' h).trans (if_neg (by omega)), t4⟩
theorem pts_0 {P : Nat → Nat} : ∀ {n : Nat}, ptsA P n = 0 → ∀ y, y < n → P y = 0 := by
  intro n
  induction n with
  | zero => intro _ y hy; omega
  | succ n ih =>
    intro h y hy
    rw [ptsA] at h
    by_cases q : y = n
    · rw [q]
      by_cases z : P n = 0
      · exact z
      · rw [if_neg z] at h; omega
    · exact ih (by omega) y (by omega)
theorem pts_pos {P : Nat → Nat} : ∀ {n : Nat}, ptsA P n ≠ 0 → ∃ y, y < n ∧ P y ≠ 0 := by
  intro n
  induction n with
  | zero => intro h; exact absurd rfl h
  | succ n ih =>
    intro h
    rw [ptsA] at h
    by_cases z : P n = 0
    · rw [if_pos z] at h
      obtain ⟨y, hy, hz⟩ := ih (by omega)
      exact ⟨y, by omega, hz⟩
    · exact ⟨n, by omega, z⟩
theorem pts_le {P : Nat → Nat} : ∀ (n : Nat), ptsA P n ≤ n := by
  intro n
  induction n with
  | zero => exact Nat.le_refl _
  | succ n ih =>
    rw [ptsA]
    split <;> omega
/-- draw, whole -/
theorem drawC {ns nb k n : Nat} {σ : Sg} {P : Nat → Nat} (hn : 0 < n) (hn2 : n ≤ 96) (hP : ∀ x, P x ≤ 101) (hm : ∀ x, x < 96 → σ.1 11 k x = if P x = 0 then 0 else 1) (hpt : σ.1 10 k 2 = nI (ptsA P n)) (hq : ∀ x, x < n → P x ≠ 0 → (σ.1 12 k x).toInt = (P x : Int) - 1) : ∃ σ' : Sg, FX1_draw ns nb σ k (nI n) = some σ' ∧ σ'.2 = σ.2 ∧ (∀ k' j' f', ¬ (k' = 12 ∧ j' = k) → σ'.1 k' j' f' = σ.1 k' j' f') ∧ ∀ x, x < n → (σ'.1 12 k x).toInt = lfA P n x := by
  have hle := pts_le (P := P) n
  by_cases h0 : ptsA P n = 0
  · have hz := pts_0 h0
    obtain ⟨σ', t1, t2, t3, t4⟩ := draw0 (ns := ns) (nb := nb) (k := k) hn2 hz n 0 4100 σ (by omega) (by omega) hm (by rw [hpt, h0]; rfl) (fun x hx => by omega)
    refine ⟨σ', ?_, t2, t3, fun x hx => ?_⟩
    · unfold FX1_draw
      rw [show LX1_draw_2 ns nb k (nI n) 4100 0 σ = _ from t1]
      rfl
    · rw [t4 x hx, lf_none hz hx]; rfl
  · have hz := pts_pos h0
    obtain ⟨σ', t1, t2, t3, t4⟩ := draw4 (ns := ns) (nb := nb) (k := k) hn hn2 hP hz n 0 4100 σ (by omega) (by omega) hm (by rw [hpt]; exact nI_ne0 (by omega) (by omega)) hq (fun x hx _ h => by omega)
    refine ⟨σ', ?_, t2, t3, t4⟩
    unfold FX1_draw
    rw [show LX1_draw_2 ns nb k (nI n) 4100 0 σ = _ from t1]
    rfl
