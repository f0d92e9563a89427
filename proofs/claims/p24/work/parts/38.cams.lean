/-! A NOTE, IN THE COMPONENT -/
def hrA (A : Ab) (b l : Nat) : Ab :=
  if A 3 0 1 < 250 then aU (aU (aU (aU (aU (aU A 3 0 2 (A 3 0 2 + 1)) 4 0 (4 * A 3 0 1) (A 0 0 6)) 4 0 (4 * A 3 0 1 + 1) b) 4 0 (4 * A 3 0 1 + 2) l) 4 0 (4 * A 3 0 1 + 3) (A 8 b l)) 3 0 1 (A 3 0 1 + 1)
  else aU A 3 0 2 (A 3 0 2 + 1)
theorem hearC {A : Ab} {ns nb : Nat} {σ : Sg} {b l : Nat} (hC : Cm A ns nb σ) (h250 : A 3 0 1 ≤ 250) : ∃ σ' : Sg, FX2_hear ns nb σ (nI (A 0 0 6)) (nI b) (nI l) (nI (A 8 b l)) = some σ' ∧ frC σ σ' ∧ Cm (hrA A b l) ns nb σ' := by
  obtain ⟨h1, h2, h3, h4, h5, ⟨s1, s2, s3⟩, h7⟩ := hC
  have e1 : (sI σ 3 0 2 (σ.1 3 0 2 + 1)).1 3 0 1 = nI (A 3 0 1) := s1
  unfold FX2_hear hrA
  rw [e1]
  by_cases hk : A 3 0 1 < 250
  · have e4 : nI (A 3 0 1) * 4 = nI (4 * A 3 0 1) := by rw [show (4 : Int32) = nI 4 from rfl, pk_mul, Nat.mul_comm]
    have f1 : nI (4 * A 3 0 1) + 1 = nI (4 * A 3 0 1 + 1) := nI_1 _
    have f2 : nI (4 * A 3 0 1) + 2 = nI (4 * A 3 0 1 + 2) := nI_add _ 2
    have f3 : nI (4 * A 3 0 1) + 3 = nI (4 * A 3 0 1 + 3) := nI_add _ 3
    rw [if_pos hk, if_neg (show ¬ (250 : Int32) ≤ nI (A 3 0 1) from nI_ge (b := 250) hk (by decide)), e4, f1, f2, f3, put4 (k := 4) (N := 1000) rfl (by decide) (by omega), Option.bind_some, put4 (k := 4) (N := 1000) rfl (by decide) (by omega), Option.bind_some, put4 (k := 4) (N := 1000) rfl (by decide) (by omega), Option.bind_some, put4 (k := 4) (N := 1000) rfl (by decide) (by omega), Option.bind_some]
    have e1' : (sI (sI (sI (sI (sI σ 3 0 2 (σ.1 3 0 2 + 1)) 4 0 (4 * A 3 0 1) (nI (A 0 0 6))) 4 0 (4 * A 3 0 1 + 1) (nI b)) 4 0 (4 * A 3 0 1 + 2) (nI l)) 4 0 (4 * A 3 0 1 + 3) (nI (A 8 b l))).1 3 0 1 = nI (A 3 0 1) := s1
    rw [e1', s2, nI_1, nI_1]
    refine ⟨_, rfl, ((((((frC_I (by decide)).tr (frC_I (by decide))).tr (frC_I (by decide))).tr (frC_I (by decide))).tr (frC_I (by decide)))).tr (frC_I (by decide)), h1, h2, h3, h4, h5, ⟨rfl, rfl, fun j hj => ?_⟩, h7⟩
    have hj : j < 4 * (A 3 0 1 + 1) := hj
    have hA : aU (aU (aU (aU (aU (aU A 3 0 2 (A 3 0 2 + 1)) 4 0 (4 * A 3 0 1) (A 0 0 6)) 4 0 (4 * A 3 0 1 + 1) b) 4 0 (4 * A 3 0 1 + 2) l) 4 0 (4 * A 3 0 1 + 3) (A 8 b l)) 3 0 1 (A 3 0 1 + 1) 4 0 j = if j = 4 * A 3 0 1 + 3 then A 8 b l else if j = 4 * A 3 0 1 + 2 then l else if j = 4 * A 3 0 1 + 1 then b else if j = 4 * A 3 0 1 then A 0 0 6 else A 4 0 j := by simp [aU_eq]
    have hS : (sI (sI (sI (sI (sI (sI σ 3 0 2 (nI (A 3 0 2 + 1))) 4 0 (4 * A 3 0 1) (nI (A 0 0 6))) 4 0 (4 * A 3 0 1 + 1) (nI b)) 4 0 (4 * A 3 0 1 + 2) (nI l)) 4 0 (4 * A 3 0 1 + 3) (nI (A 8 b l))) 3 0 1 (nI (A 3 0 1 + 1))).1 4 0 j = if j = 4 * A 3 0 1 + 3 then nI (A 8 b l) else if j = 4 * A 3 0 1 + 2 then nI l else if j = 4 * A 3 0 1 + 1 then nI b else if j = 4 * A 3 0 1 then nI (A 0 0 6) else σ.1 4 0 j := by simp [sI_eq]
    rw [hA, hS]
    split
    · rfl
    · split
      · rfl
      · split
        · rfl
        · split
          · rfl
          · exact s3 j (by omega)
  · rw [if_neg hk, if_pos (show (250 : Int32) ≤ nI (A 3 0 1) from nI_le (a := 250) (by omega) (by omega)), s2, nI_1]
    exact ⟨_, rfl, frC_I (by decide), h1, h2, h3, h4, h5, ⟨s1, rfl, s3⟩, h7⟩
theorem payC {A : Ab} {ns nb : Nat} {σ : Sg} {s : Nat} (hC : Cm A ns nb σ) (hs : s < ns) (hh : A 5 s 1 ≤ 200000) : FX3_payForNote ns nb σ s = some (sI σ 5 s 1 (nI (A 5 s 1 - min 10 (A 5 s 1)))) ∧ Cm (aU A 5 s 1 (A 5 s 1 - min 10 (A 5 s 1))) ns nb (sI σ 5 s 1 (nI (A 5 s 1 - min 10 (A 5 s 1)))) := by
  have c1 := (hC.1 s hs).2.1
  refine ⟨?_, hC.sp (Or.inl rfl)⟩
  unfold FX3_payForNote
  rw [c1, show mnI 10 (nI (A 5 s 1)) = nI (min 10 (A 5 s 1)) from mn_nI (by decide) (by omega), pk_sub (by omega)]
/-- the count of points where one place changes -/
theorem pts_upd (P : Nat → Nat) (x v : Nat) : ∀ n, ptsA (fun y => if y = x then v else P y) n + (if x < n ∧ P x ≠ 0 then 1 else 0) = ptsA P n + (if x < n ∧ v ≠ 0 then 1 else 0) := by
  intro n
  induction n with
  | zero => simp [ptsA]
  | succ n ih =>
    rw [ptsA, ptsA]
    by_cases hn : n = x
    · subst hn
      rw [if_pos rfl]
      rw [if_neg (by omega), if_neg (by omega)] at ih
      generalize ptsA (fun y => if y = n then v else P y) n = q at ih ⊢
      by_cases h1 : v = 0 <;> by_cases h2 : P n = 0 <;> simp [h1, h2] <;> omega
    · rw [if_neg hn]
      have e1 : (x < n + 1 ∧ P x ≠ 0) ↔ (x < n ∧ P x ≠ 0) := by omega
      have e2 : (x < n + 1 ∧ v ≠ 0) ↔ (x < n ∧ v ≠ 0) := by omega
      simp only [e1, e2]
      omega
/-! THE COMPONENT'S SPAN: marks alone are wanted -/
theorem hasP {ns nb k x : Nat} {σ : Sg} {P : Nat → Nat} (hm : ∀ x, x < 96 → σ.1 11 k x = if P x = 0 then 0 else 1) (hx : x < 96) : FX1_hasPoint ns nb σ k (nI x) = some (if P x = 0 then 0 else 1, σ) := by
  unfold FX1_hasPoint
  rw [at4 (k := 11) (N := 96) rfl (by decide) hx, Option.bind_some]
  dsimp only
  rw [hm x hx]
  by_cases h : P x = 0
  · rw [if_pos h, if_neg (show ¬ (0 : Int32) = 1 by decide)]
  · rw [if_neg h, if_pos rfl]
theorem rem4 {ns nb a n : Nat} {σ : Sg} (ha : a < 2 ^ 31) (hn : 0 < n) (hn2 : n < 2 ^ 31) : FX4_remainder ns nb σ (nI a) (nI n) = some (nI (a % n), σ) := by
  unfold FX4_remainder
  rw [if_neg (nI_nle hn hn2), if_neg (nI_ne0 hn hn2), pk_rem ha hn hn2]
/-- the span is the steps on to a point, or the whole barrel -/
theorem span4 {ns nb k n x : Nat} {σ : Sg} {P : Nat → Nat} (hm : ∀ x, x < 96 → σ.1 11 k x = if P x = 0 then 0 else 1) (hn : 0 < n) (hn2 : n ≤ 96) (hx : x < n) : ∀ (m d fuel : Nat), d + m = n → m < fuel → LX1_drawBehind_2 ns nb k (nI x) (nI n) fuel (nI d) σ = some (nI (ahA P n x m d), σ) := by
  intro m
  induction m with
  | zero =>
    intro d fuel hd hf
    obtain ⟨u, rfl⟩ : ∃ u, fuel = u + 1 := ⟨fuel - 1, by omega⟩
    rw [LX1_drawBehind_2, if_pos (nI_le (by omega) (by omega))]
    rfl
  | succ m ih =>
    intro d fuel hd hf
    obtain ⟨u, rfl⟩ : ∃ u, fuel = u + 1 := ⟨fuel - 1, by omega⟩
    have hmod : (x + d) % n < n := Nat.mod_lt _ hn
    rw [LX1_drawBehind_2, if_neg (nI_ge (by omega) (by omega)), nI_add, rem4 (by omega) hn (by omega), Option.bind_some]
    dsimp only
    rw [hasP hm (by omega), Option.bind_some, ahA]
    dsimp only
    by_cases hz : P ((x + d) % n) = 0
    · rw [if_pos hz, if_pos rfl, if_pos hz, nI_1]
      exact ih (d + 1) u (by omega) (by omega)
    · rw [if_neg hz, if_neg n10, if_neg hz]
/-! THE COMPONENT'S LINE BEHIND A POINT -/
theorem mod_ne {x i j n : Nat} (h1 : i < j) (h2 : j < i + n) : (x + i) % n ≠ (x + j) % n := by
  intro q
  have h := Nat.sub_mod_eq_zero_of_mod_eq q.symm
  rw [show x + j - (x + i) = j - i by omega, Nat.mod_eq_of_lt (by omega)] at h
  omega
theorem fill4 {ns nb k n x D : Nat} {F R : Int32} (hn : 0 < n) (hn2 : n ≤ 96) (hx : x < n) (hD : 0 < D) (hDn : D ≤ n) (hF : 0 ≤ F.toInt ∧ F.toInt ≤ 101) (hR : -101 ≤ R.toInt ∧ R.toInt ≤ 101) : ∀ (m i fuel : Nat) (σ : Sg), i + m = D → m < fuel → ∃ σ' : Sg, LX1_drawBehind_59 ns nb k (nI x) (nI n) (nI D) F R fuel (nI i) σ = some σ' ∧ σ'.2 = σ.2 ∧ (∀ k' j' f', ¬ (k' = 12 ∧ j' = k) → σ'.1 k' j' f' = σ.1 k' j' f') ∧ (∀ j, i ≤ j → j < D → (σ'.1 12 k ((x + j) % n)).toInt = F.toInt + (R.toInt * (j : Int)).fdiv (D : Int)) ∧ ∀ y, (∀ j, i ≤ j → j < D → y ≠ (x + j) % n) → σ'.1 12 k y = σ.1 12 k y := by
  intro m
  induction m with
  | zero =>
    intro i fuel σ hi hf
    obtain ⟨u, rfl⟩ : ∃ u, fuel = u + 1 := ⟨fuel - 1, by omega⟩
    exact ⟨σ, by rw [LX1_drawBehind_59, if_pos (nI_le (by omega) (by omega))], rfl, fun _ _ _ _ => rfl, fun j h1 h2 => by omega, fun y _ => rfl⟩
  | succ m ih =>
    intro i fuel σ hi hf
    obtain ⟨u, rfl⟩ : ∃ u, fuel = u + 1 := ⟨fuel - 1, by omega⟩
    have hmod : (x + i) % n < n := Nat.mod_lt _ hn
    have hiI : (nI i).toInt = (i : Int) := nI_toInt (by omega)
    have mb := mul_bnd (u := R.toInt) (k := i) hR.1 hR.2 (by omega)
    have s2 : (R * nI i).toInt = R.toInt * (i : Int) := by
      rw [fb_mulI, hiI] <;> rw [hiI] <;> omega
    obtain ⟨f, f1, f2⟩ := fdiv9 (ns := ns) (nb := nb) (σ := σ) (x := R * nI i) (d := D) (by rw [s2]; omega) hD (by omega)
    rw [s2] at f2
    have fb := fdiv_bnd (d := D) mb.1 mb.2 hD
    obtain ⟨σ', r1, r2, r3, r4, r5⟩ := ih (i + 1) u (sI σ 12 k ((x + i) % n) (F + f)) (by omega) (by omega)
    refine ⟨σ', ?_, r2, fun k' j' f' h => (r3 k' j' f' h).trans (if_neg (by omega)), fun j h1 h2 => ?_, fun y hy => ?_⟩
    · rw [LX1_drawBehind_59, if_neg (nI_ge (by omega) (by omega)), nI_add, rem4 (by omega) hn (by omega), Option.bind_some]
      dsimp only
      rw [f1, Option.bind_some]
      dsimp only
      rw [put4 (k := 12) (N := 96) rfl (by decide) (by omega), Option.bind_some, nI_1]
      exact r1
    · by_cases q : j = i
      · subst q
        rw [r5 _ (fun j' h1 h2 => mod_ne (by omega) (by omega)), sI_eq, if_pos ⟨rfl, rfl, rfl⟩, fb_addI, f2] <;> rw [f2] <;> omega
      · exact r4 j (by omega) h2
    · rw [r5 y (fun j h1 h2 => hy j (by omega) h2), sI_eq, if_neg (fun q => hy i (Nat.le_refl _) (by omega) q.2.2)]
theorem behind4 {ns nb k n x : Nat} {σ : Sg} {P : Nat → Nat} (hm : ∀ x, x < 96 → σ.1 11 k x = if P x = 0 then 0 else 1) (hn : 0 < n) (hn2 : n ≤ 96) (hx : x < n) (hF : 0 ≤ (σ.1 12 k x).toInt ∧ (σ.1 12 k x).toInt ≤ 100) (hG : 0 ≤ (σ.1 12 k ((x + ahA P n x (n - 1) 1) % n)).toInt ∧ (σ.1 12 k ((x + ahA P n x (n - 1) 1) % n)).toInt ≤ 100) :
    ∃ σ' : Sg, FX1_drawBehind ns nb σ k (nI x) (nI n) = some σ' ∧ σ'.2 = σ.2 ∧ (∀ k' j' f', ¬ (k' = 12 ∧ j' = k) → σ'.1 k' j' f' = σ.1 k' j' f') ∧ (∀ j, 1 ≤ j → j < ahA P n x (n - 1) 1 → (σ'.1 12 k ((x + j) % n)).toInt = (σ.1 12 k x).toInt + (((σ.1 12 k ((x + ahA P n x (n - 1) 1) % n)).toInt - (σ.1 12 k x).toInt) * (j : Int)).fdiv (ahA P n x (n - 1) 1 : Int)) ∧ ∀ y, (∀ j, 1 ≤ j → j < ahA P n x (n - 1) 1 → y ≠ (x + j) % n) → σ'.1 12 k y = σ.1 12 k y := by
  obtain ⟨a1, a2⟩ := ah_le (P := P) (n := n) (x := x) (n - 1) 1
  have hsp := span4 (ns := ns) (nb := nb) (σ := σ) hm hn hn2 hx (n - 1) 1 4100 (by omega) (by omega)
  obtain ⟨D, eD⟩ : ∃ D, D = ahA P n x (n - 1) 1 := ⟨_, rfl⟩
  rw [← eD] at hG a1 a2 hsp ⊢
  have hmod : (x + D) % n < n := Nat.mod_lt _ hn
  have hR : (σ.1 12 k ((x + D) % n) - σ.1 12 k x).toInt = (σ.1 12 k ((x + D) % n)).toInt - (σ.1 12 k x).toInt := by
    rw [fb_subI] <;> omega
  obtain ⟨σ', r1, r2, r3, r4, r5⟩ := fill4 (ns := ns) (nb := nb) (k := k) (n := n) (x := x) (D := D) (F := σ.1 12 k x) (R := σ.1 12 k ((x + D) % n) - σ.1 12 k x) hn hn2 hx (by omega) (by omega) (by omega) (by rw [hR]; omega) (D - 1) 1 4100 σ (by omega) (by omega)
  refine ⟨σ', ?_, r2, r3, fun j h1 h2 => by rw [r4 j h1 h2, hR], r5⟩
  unfold FX1_drawBehind
  rw [show LX1_drawBehind_2 ns nb k (nI x) (nI n) 4100 1 σ = _ from hsp, Option.bind_some]
  dsimp only
  rw [at4 (k := 12) (N := 96) rfl (by decide) (by omega), Option.bind_some]
  dsimp only
  rw [nI_add, rem4 (by omega) hn (by omega), Option.bind_some]
  dsimp only
  rw [at4 (k := 12) (N := 96) rfl (by decide) (by omega), Option.bind_some]
  dsimp only
  rw [show LX1_drawBehind_59 ns nb k (nI x) (nI n) (nI D) (σ.1 12 k x) (σ.1 12 k ((x + D) % n) - σ.1 12 k x) 4100 1 σ = _ from r1]
  rfl
/-! WHAT bkA AND ahA ARE -/
theorem bk_char {P : Nat → Nat} {n x j : Nat} (hz : P ((x + n - j) % n) ≠ 0) : ∀ (m d : Nat), d ≤ j → j < d + m → (∀ i, d ≤ i → i < j → P ((x + n - i) % n) = 0) → bkA P n x m d = j := by
  intro m
  induction m with
  | zero => intro d h1 h2 _; omega
  | succ m ih =>
    intro d h1 h2 hall
    rw [bkA]
    by_cases q : d = j
    · subst q
      rw [if_neg hz]
    · rw [if_pos (hall d (Nat.le_refl _) (by omega))]
      exact ih (d + 1) (by omega) (by omega) (fun i h1 h2 => hall i (by omega) h2)
theorem ah_char {P : Nat → Nat} {n x j : Nat} (hz : P ((x + j) % n) ≠ 0) : ∀ (m d : Nat), d ≤ j → j < d + m → (∀ i, d ≤ i → i < j → P ((x + i) % n) = 0) → ahA P n x m d = j := by
  intro m
  induction m with
  | zero => intro d h1 h2 _; omega
  | succ m ih =>
    intro d h1 h2 hall
    rw [ahA]
    by_cases q : d = j
    · subst q
      rw [if_neg hz]
    · rw [if_pos (hall d (Nat.le_refl _) (by omega))]
      exact ih (d + 1) (by omega) (by omega) (fun i h1 h2 => hall i (by omega) h2)
/-! THE COMPONENT'S CAM, DRAWN ANEW -/
theorem md2 {a n : Nat} (h : a < 2 * n) : (a < n ∧ a % n = a) ∨ (n ≤ a ∧ a % n = a - n) := by
  by_cases c : a < n
  · exact Or.inl ⟨c, Nat.mod_eq_of_lt c⟩
  · exact Or.inr ⟨by omega, by rw [Nat.mod_eq_sub_mod (by omega), Nat.mod_eq_of_lt (by omega)]⟩
theorem md_back {n i j e : Nat} (hi : i < n) (he : e ≤ j) (hj : j ≤ n) : ((i + j) % n + n - e) % n = (i + (j - e)) % n := by
  rcases md2 (a := i + j) (n := n) (by omega) with ⟨c, h⟩ | ⟨c, h⟩
  · rw [h]
    rcases md2 (a := i + j + n - e) (n := n) (by omega) with ⟨c2, h2⟩ | ⟨c2, h2⟩
    · omega
    · rw [h2, Nat.mod_eq_of_lt (by omega)]
      omega
  · rw [h, show i + j - n + n - e = i + (j - e) by omega]
theorem md_on {n i j e : Nat} (hi : i < n) (hj : j ≤ n) : ((i + j) % n + e) % n = (i + (j + e)) % n := by
  rw [Nat.mod_add_mod, Nat.add_assoc]
theorem ah_zero {P : Nat → Nat} {n x : Nat} : ∀ (m d e : Nat), d ≤ e → e < ahA P n x m d → P ((x + e) % n) = 0 := by
  intro m
  induction m with
  | zero => intro d e h1 h2; rw [ahA] at h2; omega
  | succ m ih =>
    intro d e h1 h2
    rw [ahA] at h2
    by_cases hz : P ((x + d) % n) = 0
    · rw [if_pos hz] at h2
      by_cases q : e = d
      · rw [q]; exact hz
      · exact ih (d + 1) e (by omega) h2
    · rw [if_neg hz] at h2
      omega
theorem ah_end {P : Nat → Nat} {n x : Nat} : ∀ (m d : Nat), ahA P n x m d = d + m ∨ P ((x + ahA P n x m d) % n) ≠ 0 := by
  intro m
  induction m with
  | zero => intro d; exact Or.inl rfl
  | succ m ih =>
    intro d
    rw [ahA]
    by_cases hz : P ((x + d) % n) = 0
    · rw [if_pos hz]
      rcases ih (d + 1) with q | q
      · exact Or.inl (by omega)
      · exact Or.inr q
    · rw [if_neg hz]; exact Or.inr hz
theorem bk_zero {P : Nat → Nat} {n x : Nat} : ∀ (m d e : Nat), d ≤ e → e < bkA P n x m d → P ((x + n - e) % n) = 0 := by
  intro m
  induction m with
  | zero => intro d e h1 h2; rw [bkA] at h2; omega
  | succ m ih =>
    intro d e h1 h2
    rw [bkA] at h2
    by_cases hz : P ((x + n - d) % n) = 0
    · rw [if_pos hz] at h2
      by_cases q : e = d
      · rw [q]; exact hz
      · exact ih (d + 1) e (by omega) h2
    · rw [if_neg hz] at h2
      omega
theorem bk_lt {P : Nat → Nat} {n x : Nat} (hx : x < n) (hp : ∃ y, y < n ∧ P y ≠ 0) : bkA P n x n 0 < n := by
  obtain ⟨b1, b2, b3⟩ := bk_pt (P := P) (n := n) (x := x) n 0
  by_cases hb : bkA P n x n 0 = n
  · exfalso
    obtain ⟨y, hy, hyz⟩ := hp
    have hz := bk_zero (P := P) (n := n) (x := x) n 0
    rw [hb] at hz
    by_cases c : y ≤ x
    · have h := hz (x - y) (by omega) (by omega)
      rw [show x + n - (x - y) = y + n by omega, Nat.add_mod_right, Nat.mod_eq_of_lt hy] at h
      exact hyz h
    · have h := hz (x + n - y) (by omega) (by omega)
      rw [show x + n - (x + n - y) = y by omega, Nat.mod_eq_of_lt hy] at h
      exact hyz h
  · omega
def srcA (P : Nat → Nat) (n x : Nat) : Nat := (x + n - bkA P n x n 0) % n
/-- a point's span -/
theorem span_of {P : Nat → Nat} {n i : Nat} (hi : i < n) (hz : P i ≠ 0) : 1 ≤ ahA P n i (n - 1) 1 ∧ ahA P n i (n - 1) 1 ≤ n ∧ (∀ e, 1 ≤ e → e < ahA P n i (n - 1) 1 → P ((i + e) % n) = 0) ∧ P ((i + ahA P n i (n - 1) 1) % n) ≠ 0 := by
  obtain ⟨a1, a2⟩ := ah_le (P := P) (n := n) (x := i) (n - 1) 1
  refine ⟨by omega, by omega, fun e h1 h2 => ah_zero _ _ e h1 h2, ?_⟩
  rcases ah_end (P := P) (n := n) (x := i) (n - 1) 1 with q | q
  · rw [q, show i + (1 + (n - 1)) = i + n by omega, Nat.add_mod_right, Nat.mod_eq_of_lt hi]
    exact hz
  · exact q
/-- where a place lies in a point's span -/
theorem in_span {P : Nat → Nat} {n i D j : Nat} (hi : i < n) (hz : P i ≠ 0) (hDn : D ≤ n) (hD : ∀ e, 1 ≤ e → e < D → P ((i + e) % n) = 0) (hE : P ((i + D) % n) ≠ 0) (h1 : 1 ≤ j) (h2 : j < D) : P ((i + j) % n) = 0 ∧ bkA P n ((i + j) % n) n 0 = j ∧ srcA P n ((i + j) % n) = i ∧ ahA P n ((i + j) % n) n 1 = D - j := by
  have hb : bkA P n ((i + j) % n) n 0 = j := by
    refine bk_char ?_ n 0 (by omega) (by omega) (fun e h3 h4 => ?_)
    · rw [md_back hi (Nat.le_refl j) (by omega), Nat.sub_self, Nat.add_zero, Nat.mod_eq_of_lt hi]
      exact hz
    · rw [md_back hi (by omega) (by omega)]
      exact hD (j - e) (by omega) (by omega)
  refine ⟨hD j h1 h2, hb, ?_, ?_⟩
  · unfold srcA
    rw [hb, md_back hi (Nat.le_refl j) (by omega), Nat.sub_self, Nat.add_zero, Nat.mod_eq_of_lt hi]
  · refine ah_char ?_ n 1 (by omega) (by omega) (fun e h3 h4 => ?_)
    · rw [md_on hi (by omega), show j + (D - j) = D by omega]
      exact hE
    · rw [md_on hi (by omega)]
      exact hD (j + e) (by omega) (by omega)
/-- a place without a point lies in the span of its source -/
theorem src_span {P : Nat → Nat} {n x : Nat} (hx : x < n) (hx0 : P x = 0) (hp : ∃ y, y < n ∧ P y ≠ 0) : srcA P n x < n ∧ P (srcA P n x) ≠ 0 ∧ ∃ j, 1 ≤ j ∧ j < ahA P n (srcA P n x) (n - 1) 1 ∧ x = (srcA P n x + j) % n := by
  obtain ⟨b1, b2, b3⟩ := bk_pt (P := P) (n := n) (x := x) n 0
  have hb := bk_lt hx hp
  have hz := bk_zero (P := P) (n := n) (x := x) n 0
  obtain ⟨b, eb⟩ : ∃ b, b = bkA P n x n 0 := ⟨_, rfl⟩
  have hs : srcA P n x = (x + n - b) % n := by rw [eb]; rfl
  rw [← eb] at b1 b2 b3 hb hz
  have hpt := b3 (by omega)
  have hmod : (x + n - b) % n < n := Nat.mod_lt _ (by omega)
  have hb0 : b ≠ 0 := by
    intro q
    rw [q, Nat.sub_zero, Nat.add_mod_right, Nat.mod_eq_of_lt hx] at hpt
    exact hpt hx0
  rw [hs]
  obtain ⟨d1, d2, d3, d4⟩ := span_of hmod hpt
  have back : ∀ j, j ≤ b → ((x + n - b) % n + j) % n = (x + n - (b - j)) % n := by
    intro j hj
    rw [Nat.mod_add_mod, show x + n - b + j = x + n - (b - j) by omega]
  refine ⟨hmod, hpt, b, by omega, ?_, ?_⟩
  · apply Nat.lt_of_not_le
    intro q
    apply d4
    rw [back _ q]
    exact hz _ (Nat.zero_le _) (by omega)
  · rw [back b (Nat.le_refl _), Nat.sub_self, Nat.sub_zero, Nat.add_mod_right, Nat.mod_eq_of_lt hx]
theorem lf_pt {P : Nat → Nat} {n x : Nat} (hx : x < n) (hz : P x ≠ 0) : lfA P n x = (P x : Int) - 1 := by
  have hb : bkA P n x n 0 = 0 := by
    refine bk_char ?_ n 0 (Nat.le_refl _) (by omega) (fun e h3 h4 => by omega)
    rw [Nat.sub_zero, Nat.add_mod_right, Nat.mod_eq_of_lt hx]
    exact hz
  unfold lfA
  rw [hb, if_neg (by omega), Nat.sub_zero, Nat.add_mod_right, Nat.mod_eq_of_lt hx]
  simp
theorem lf_none {P : Nat → Nat} {n x : Nat} (hP : ∀ y, y < n → P y = 0) (hx : x < n) : lfA P n x = 0 := by
  obtain ⟨b1, b2, b3⟩ := bk_pt (P := P) (n := n) (x := x) n 0
  unfold lfA
  by_cases hz : bkA P n x n 0 = n
  · rw [if_pos hz]
  · exact absurd (hP _ (Nat.mod_lt _ (by omega))) (b3 (by omega))
/-- the drawing, with a point -/
theorem draw4 {ns nb k n : Nat} {P : Nat → Nat} (hn : 0 < n) (hn2 : n ≤ 96) (hP : ∀ x, P x ≤ 101) (hp : ∃ y, y < n ∧ P y ≠ 0) : ∀ (m i fuel : Nat) (σ : Sg), i + m = n → m < fuel → (∀ x, x < 96 → σ.1 11 k x = if P x = 0 then 0 else 1) → ¬ σ.1 10 k 2 = 0 → (∀ x, x < n → P x ≠ 0 → (σ.1 12 k x).toInt = (P x : Int) - 1) → (∀ x, x < n → P x = 0 → srcA P n x < i → (σ.1 12 k x).toInt = lfA P n x) → ∃ σ' : Sg, LX1_draw_2 ns nb k (nI n) fuel (nI i) σ = some σ' ∧ σ'.2 = σ.2 ∧ (∀ k' j' f', ¬ (k' = 12 ∧ j' = k) → σ'.1 k' j' f' = σ.1 k' j' f') ∧ ∀ x, x < n → (σ'.1 12 k x).toInt = lfA P n x := by
  intro m
  induction m with
  | zero =>
    intro i fuel σ hi hf hm hpt hq hl
    obtain ⟨u, rfl⟩ : ∃ u, fuel = u + 1 := ⟨fuel - 1, by omega⟩
    refine ⟨σ, by rw [LX1_draw_2, if_pos (nI_le (by omega) (by omega))], rfl, fun _ _ _ _ => rfl, fun x hx => ?_⟩
    by_cases hz : P x = 0
    · exact hl x hx hz (by have := (src_span hx hz hp).1; omega)
    · rw [hq x hx hz, lf_pt hx hz]
  | succ m ih =>
    intro i fuel σ hi hf hm hpt hq hl
    obtain ⟨u, rfl⟩ : ∃ u, fuel = u + 1 := ⟨fuel - 1, by omega⟩
    have hin : i < n := by omega
    rw [LX1_draw_2, if_neg (nI_ge (by omega) (by omega)), hasP hm (by omega), Option.bind_some]
    dsimp only
    by_cases hz : P i = 0
    · rw [if_pos hz, if_pos rfl, if_neg hpt, nI_1]
      refine ih (i + 1) u σ (by omega) (by omega) hm hpt hq (fun x hx h0 hs => ?_)
      have hne : srcA P n x ≠ i := fun q => (src_span hx h0 hp).2.1 (q ▸ hz)
      exact hl x hx h0 (by omega)
    · have hPi := hP i
      obtain ⟨d1, d2, d3, d4⟩ := span_of hin hz
      have hPe := hP ((i + ahA P n i (n - 1) 1) % n)
      have hF := hq i hin hz
      have hG := hq _ (Nat.mod_lt _ hn) d4
      obtain ⟨σ1, r1, r2, r3, r4, r5⟩ := behind4 (ns := ns) (nb := nb) (k := k) (P := P) hm hn hn2 hin (by omega) (by omega)
      rw [if_neg hz, if_neg n10, r1, Option.bind_some, nI_1]
      have a1 : ∀ x, x < n → P x ≠ 0 → (σ1.1 12 k x).toInt = (P x : Int) - 1 := by
        intro x hx h0
        rw [r5 x (fun j h1 h2 q => h0 (q ▸ d3 j h1 h2))]
        exact hq x hx h0
      have a2 : ∀ x, x < n → P x = 0 → srcA P n x < i + 1 → (σ1.1 12 k x).toInt = lfA P n x := by
        intro x hx h0 hs
        obtain ⟨s1, s2, j, j1, j2, j3⟩ := src_span hx h0 hp
        by_cases hsi : srcA P n x = i
        · rw [hsi] at j2 j3
          obtain ⟨i1, i2, i3, i4⟩ := in_span hin hz d2 d3 d4 j1 j2
          rw [j3, r4 j j1 j2, hF, hG]
          unfold lfA
          rw [i2, i4, if_neg (by omega), md_back hin (Nat.le_refl j) (by omega), Nat.sub_self, Nat.add_zero, Nat.mod_eq_of_lt hin, md_on hin (by omega), show j + (ahA P n i (n - 1) 1 - j) = ahA P n i (n - 1) 1 by omega]
          have e1 : (j : Int) + ((ahA P n i (n - 1) 1 - j : Nat) : Int) = (ahA P n i (n - 1) 1 : Int) := by omega
          have e2 : ((P ((i + ahA P n i (n - 1) 1) % n) : Int) - 1) - ((P i : Int) - 1) = (P ((i + ahA P n i (n - 1) 1) % n) : Int) - (P i : Int) := by omega
          rw [e1, e2]
        · have hne : ∀ j', 1 ≤ j' → j' < ahA P n i (n - 1) 1 → x ≠ (i + j') % n := by
            intro j' h1 h2 q
            have := (in_span hin hz d2 d3 d4 h1 h2).2.2.1
            rw [← q] at this
            exact hsi this
          rw [r5 x hne]
          exact hl x hx h0 (by omega)
      obtain ⟨σ', t1, t2, t3, t4⟩ := ih (i + 1) u σ1 (by omega) (by omega) (fun x hx => by rw [r3 11 k x (by omega)]; exact hm x hx) (by rw [r3 10 k 2 (by omega)]; exact hpt) a1 a2
      exact ⟨σ', t1, t2.trans r2, fun k' j' f' h => (t3 k' j' f' h).trans (r3 k' j' f' h), t4⟩
/-- the drawing, without points -/
theorem draw0 {ns nb k n : Nat} {P : Nat → Nat} (hn2 : n ≤ 96) (hP : ∀ x, x < n → P x = 0) : ∀ (m i fuel : Nat) (σ : Sg), i + m = n → m < fuel → (∀ x, x < 96 → σ.1 11 k x = if P x = 0 then 0 else 1) → σ.1 10 k 2 = 0 → (∀ x, x < i → σ.1 12 k x = 0) → ∃ σ' : Sg, LX1_draw_2 ns nb k (nI n) fuel (nI i) σ = some σ' ∧ σ'.2 = σ.2 ∧ (∀ k' j' f', ¬ (k' = 12 ∧ j' = k) → σ'.1 k' j' f' = σ.1 k' j' f') ∧ ∀ x, x < n → σ'.1 12 k x = 0 := by
  intro m
  induction m with
  | zero =>
    intro i fuel σ hi hf hm hpt hl
    obtain ⟨u, rfl⟩ : ∃ u, fuel = u + 1 := ⟨fuel - 1, by omega⟩
    exact ⟨σ, by rw [LX1_draw_2, if_pos (nI_le (by omega) (by omega))], rfl, fun _ _ _ _ => rfl, fun x hx => hl x (by omega)⟩
  | succ m ih =>
    intro i fuel σ hi hf hm hpt hl
    obtain ⟨u, rfl⟩ : ∃ u, fuel = u + 1 := ⟨fuel - 1, by omega⟩
    rw [LX1_draw_2, if_neg (nI_ge (by omega) (by omega)), hasP hm (by omega), Option.bind_some]
    dsimp only
    rw [if_pos (hP i (by omega)), if_pos rfl, if_pos hpt, put4 (k := 12) (N := 96) rfl (by decide) (by omega), Option.bind_some, nI_1]
    have a1 : ∀ x, x < i + 1 → (sI σ 12 k i 0).1 12 k x = 0 := by
      intro x hx
      rw [sI_eq]
      by_cases q : x = i
      · rw [if_pos ⟨rfl, rfl, q⟩]
      · rw [if_neg (fun z => q z.2.2)]
        exact hl x (by omega)
    obtain ⟨σ', t1, t2, t3, t4⟩ := ih (i + 1) u (sI σ 12 k i 0) (by omega) (by omega) (fun x hx => hm x hx) hpt a1
    exact ⟨σ', t1, t2, fun k' j' f' h => (t3 k' j' f' h).trans (if_neg (by omega)), t4⟩
theorem pts_0 {P : Nat → Nat} : ∀ {n : Nat}, ptsA P n = 0 → ∀ y, y < n → P y = 0 := by
  intro n
  induction n with
  | zero => intro _ y hy; omega
  | succ n ih =>
    intro h y hy
    rw [ptsA] at h
    by_cases q : y = n
    · rw [q]
      by_cases z : P n = 0
      · exact z
      · rw [if_neg z] at h; omega
    · exact ih (by omega) y (by omega)
theorem pts_pos {P : Nat → Nat} : ∀ {n : Nat}, ptsA P n ≠ 0 → ∃ y, y < n ∧ P y ≠ 0 := by
  intro n
  induction n with
  | zero => intro h; exact absurd rfl h
  | succ n ih =>
    intro h
    rw [ptsA] at h
    by_cases z : P n = 0
    · rw [if_pos z] at h
      obtain ⟨y, hy, hz⟩ := ih (by omega)
      exact ⟨y, by omega, hz⟩
    · exact ⟨n, by omega, z⟩
theorem pts_le {P : Nat → Nat} : ∀ (n : Nat), ptsA P n ≤ n := by
  intro n
  induction n with
  | zero => exact Nat.le_refl _
  | succ n ih =>
    rw [ptsA]
    split <;> omega
/-- draw, whole -/
theorem drawC {ns nb k n : Nat} {σ : Sg} {P : Nat → Nat} (hn : 0 < n) (hn2 : n ≤ 96) (hP : ∀ x, P x ≤ 101) (hm : ∀ x, x < 96 → σ.1 11 k x = if P x = 0 then 0 else 1) (hpt : σ.1 10 k 2 = nI (ptsA P n)) (hq : ∀ x, x < n → P x ≠ 0 → (σ.1 12 k x).toInt = (P x : Int) - 1) : ∃ σ' : Sg, FX1_draw ns nb σ k (nI n) = some σ' ∧ σ'.2 = σ.2 ∧ (∀ k' j' f', ¬ (k' = 12 ∧ j' = k) → σ'.1 k' j' f' = σ.1 k' j' f') ∧ ∀ x, x < n → (σ'.1 12 k x).toInt = lfA P n x := by
  have hle := pts_le (P := P) n
  by_cases h0 : ptsA P n = 0
  · have hz := pts_0 h0
    obtain ⟨σ', t1, t2, t3, t4⟩ := draw0 (ns := ns) (nb := nb) (k := k) hn2 hz n 0 4100 σ (by omega) (by omega) hm (by rw [hpt, h0]; rfl) (fun x hx => by omega)
    refine ⟨σ', ?_, t2, t3, fun x hx => ?_⟩
    · unfold FX1_draw
      rw [show LX1_draw_2 ns nb k (nI n) 4100 0 σ = _ from t1]
      rfl
    · rw [t4 x hx, lf_none hz hx]; rfl
  · have hz := pts_pos h0
    obtain ⟨σ', t1, t2, t3, t4⟩ := draw4 (ns := ns) (nb := nb) (k := k) hn hn2 hP hz n 0 4100 σ (by omega) (by omega) hm (by rw [hpt]; exact nI_ne0 (by omega) (by omega)) hq (fun x hx _ h => by omega)
    refine ⟨σ', ?_, t2, t3, t4⟩
    unfold FX1_draw
    rw [show LX1_draw_2 ns nb k (nI n) 4100 0 σ = _ from t1]
    rfl
/-! A POINT LAID OR TAKEN, IN THE COMPONENT -/
def cmK (P : Nat → Nat) (n k : Nat) (σ : Sg) : Prop := σ.1 10 k 2 = nI (ptsA P n) ∧ (∀ x, x < 96 → σ.1 11 k x = if P x = 0 then 0 else 1) ∧ ∀ x, x < n → (σ.1 12 k x).toInt = lfA P n x
def ptU (P : Nat → Nat) (x w : Nat) : Nat → Nat := fun y => if y = x then w else P y
theorem ptU_le {P : Nat → Nat} (hP : ∀ x, P x ≤ 101) {x w : Nat} (hw : w ≤ 101) : ∀ y, ptU P x w y ≤ 101 := by
  intro y
  unfold ptU
  split
  · exact hw
  · exact hP y
theorem layC {ns nb k n x v : Nat} {σ : Sg} {P : Nat → Nat} (hn : 0 < n) (hn2 : n ≤ 96) (hx : x < n) (hv : v ≤ 100) (hP : ∀ x, P x ≤ 101) (h : cmK P n k σ) : ∃ σ' : Sg, FX1_layPoint ns nb σ k (nI x) (nI v) (nI n) = some σ' ∧ σ'.2 = σ.2 ∧ (∀ k' j' f', ¬ ((k' = 10 ∧ f' = 2 ∨ k' = 11 ∨ k' = 12) ∧ j' = k) → σ'.1 k' j' f' = σ.1 k' j' f') ∧ cmK (ptU P x (v + 1)) n k σ' := by
  obtain ⟨hpt, hm, hl⟩ := h
  have hu := pts_upd P x (v + 1) n
  have hvI : (nI v).toInt = (v : Int) := nI_toInt (by omega)
  have key : ∀ σ0 : Sg, σ0.2 = σ.2 → (∀ k' j' f', ¬ (k' = 10 ∧ f' = 2 ∧ j' = k) → σ0.1 k' j' f' = σ.1 k' j' f') → σ0.1 10 k 2 = nI (ptsA (ptU P x (v + 1)) n) → ∃ σ' : Sg, FX1_draw ns nb (sI (sI σ0 11 k x 1) 12 k x (nI v)) k (nI n) = some σ' ∧ σ'.2 = σ.2 ∧ (∀ k' j' f', ¬ ((k' = 10 ∧ f' = 2 ∨ k' = 11 ∨ k' = 12) ∧ j' = k) → σ'.1 k' j' f' = σ.1 k' j' f') ∧ cmK (ptU P x (v + 1)) n k σ' := by
    intro σ0 e2 e1 ep
    have mk : ∀ y, y < 96 → (sI (sI σ0 11 k x 1) 12 k x (nI v)).1 11 k y = if ptU P x (v + 1) y = 0 then 0 else 1 := by
      intro y hy
      rw [sI_eq, if_neg (by omega), sI_eq]
      unfold ptU
      by_cases q : y = x
      · rw [if_pos ⟨rfl, rfl, q⟩, if_pos q, if_neg (by omega)]
      · rw [if_neg (fun z => q z.2.2), if_neg q, e1 _ _ _ (by omega)]
        exact hm y hy
    obtain ⟨σ', t1, t2, t3, t4⟩ := drawC (ns := ns) (nb := nb) (k := k) (σ := sI (sI σ0 11 k x 1) 12 k x (nI v)) (P := ptU P x (v + 1)) hn hn2 (ptU_le hP (by omega)) mk ep (fun y hy h0 => by
      rw [sI_eq]
      unfold ptU at h0 ⊢
      by_cases q : y = x
      · rw [if_pos ⟨rfl, rfl, q⟩, if_pos q, hvI]
        omega
      · rw [if_neg q] at h0
        rw [if_neg (fun z => q z.2.2), if_neg q, sI_eq, if_neg (by omega), e1 _ _ _ (by omega), hl y hy, lf_pt hy h0])
    refine ⟨σ', t1, t2.trans e2, fun k' j' f' hk => ?_, ?_, fun y hy => ?_, t4⟩
    · rw [t3 k' j' f' (by omega), sI_eq, if_neg (by omega), sI_eq, if_neg (by omega), e1 k' j' f' (by omega)]
    · rw [t3 10 k 2 (by omega)]
      exact ep
    · rw [t3 11 k y (by omega)]
      exact mk y hy
  unfold FX1_layPoint
  rw [hasP hm (by omega), Option.bind_some]
  dsimp only
  by_cases hz : P x = 0
  · rw [if_neg (fun q => q.2 hz), if_pos ⟨hx, by omega⟩] at hu
    obtain ⟨σ', t1, t2⟩ := key (sI σ 10 k 2 (nI (ptsA P n + 1))) rfl (fun k' j' f' hk => if_neg (by omega)) (by
      rw [sI_eq, if_pos ⟨rfl, rfl, rfl⟩]
      exact congrArg nI hu.symm)
    refine ⟨σ', ?_, t2⟩
    rw [if_pos hz, if_pos rfl, hpt, nI_1, put4 (k := 11) (N := 96) rfl (by decide) (by omega), Option.bind_some, put4 (k := 12) (N := 96) rfl (by decide) (by omega), Option.bind_some, t1]
    rfl
  · rw [if_pos ⟨hx, hz⟩, if_pos ⟨hx, by omega⟩] at hu
    obtain ⟨σ', t1, t2⟩ := key σ rfl (fun k' j' f' hk => rfl) (by
      rw [hpt]
      exact congrArg nI (Nat.add_right_cancel hu).symm)
    refine ⟨σ', ?_, t2⟩
    rw [if_neg hz, if_neg n10, put4 (k := 11) (N := 96) rfl (by decide) (by omega), Option.bind_some, put4 (k := 12) (N := 96) rfl (by decide) (by omega), Option.bind_some, t1]
    rfl
theorem takeC {ns nb k n x : Nat} {σ : Sg} {P : Nat → Nat} (hn : 0 < n) (hn2 : n ≤ 96) (hx : x < n) (hP : ∀ x, P x ≤ 101) (hz : P x ≠ 0) (h : cmK P n k σ) : ∃ σ' : Sg, FX1_takePoint ns nb σ k (nI x) (nI n) = some σ' ∧ σ'.2 = σ.2 ∧ (∀ k' j' f', ¬ ((k' = 10 ∧ f' = 2 ∨ k' = 11 ∨ k' = 12) ∧ j' = k) → σ'.1 k' j' f' = σ.1 k' j' f') ∧ cmK (ptU P x 0) n k σ' := by
  obtain ⟨hpt, hm, hl⟩ := h
  have hu := pts_upd P x 0 n
  rw [if_pos ⟨hx, hz⟩, if_neg (by omega)] at hu
  have hpt1 : σ.1 10 k 2 - 1 = nI (ptsA (ptU P x 0) n) := by
    have e : ptsA P n = ptsA (ptU P x 0) n + 1 := by
      unfold ptU
      omega
    rw [hpt, e, nI_pred]
  have mk : ∀ y, y < 96 → (sI (sI σ 10 k 2 (nI (ptsA (ptU P x 0) n))) 11 k x 0).1 11 k y = if ptU P x 0 y = 0 then 0 else 1 := by
    intro y hy
    rw [sI_eq]
    unfold ptU
    by_cases q : y = x
    · rw [if_pos ⟨rfl, rfl, q⟩, if_pos q, if_pos rfl]
    · rw [if_neg (fun z => q z.2.2), if_neg q, sI_eq, if_neg (by omega)]
      exact hm y hy
  obtain ⟨σ', t1, t2, t3, t4⟩ := drawC (ns := ns) (nb := nb) (k := k) (σ := sI (sI σ 10 k 2 (nI (ptsA (ptU P x 0) n))) 11 k x 0) (P := ptU P x 0) hn hn2 (ptU_le hP (by omega)) mk (by rw [sI_eq, if_neg (by omega), sI_eq, if_pos ⟨rfl, rfl, rfl⟩]) (fun y hy h0 => by
    rw [sI_eq, if_neg (by omega), sI_eq, if_neg (by omega)]
    unfold ptU at h0 ⊢
    by_cases q : y = x
    · rw [if_pos q] at h0
      exact absurd rfl h0
    · rw [if_neg q] at h0
      rw [if_neg q, hl y hy, lf_pt hy h0])
  refine ⟨σ', ?_, t2, fun k' j' f' hk => ?_, ?_, fun y hy => ?_, t4⟩
  · unfold FX1_takePoint
    rw [hasP hm (by omega), Option.bind_some]
    dsimp only
    rw [if_neg hz, if_neg n10, hpt1, put4 (k := 11) (N := 96) rfl (by decide) (by omega), Option.bind_some, t1]
    rfl
  · rw [t3 k' j' f' (by omega), sI_eq, if_neg (by omega), sI_eq, if_neg (by omega)]
  · rw [t3 10 k 2 (by omega), sI_eq, if_neg (by omega), sI_eq, if_pos ⟨rfl, rfl, rfl⟩]
  · rw [t3 11 k y (by omega)]
    exact mk y hy
theorem pt_row (A : Ab) (k x w : Nat) : aU A 12 k x w 12 k = ptU (A 12 k) x w := by
  funext y
  rw [aU_eq]
  unfold ptU
  by_cases q : y = x
  · rw [if_pos ⟨rfl, rfl, q⟩, if_pos q]
  · rw [if_neg (fun z => q z.2.2), if_neg q]
theorem pt_row2 (A : Ab) {k k' : Nat} (x w : Nat) (h : k' ≠ k) : aU A 12 k x w 12 k' = A 12 k' := by
  funext y
  rw [aU_i h]
theorem Cm.pt {A : Ab} {ns nb : Nat} {σ σ' : Sg} (h : Cm A ns nb σ) {b c x w : Nat} (hc : c < 3) (h2 : σ'.2 = σ.2) (h3 : ∀ k' j' f', ¬ ((k' = 10 ∧ f' = 2 ∨ k' = 11 ∨ k' = 12) ∧ j' = 3 * b + c) → σ'.1 k' j' f' = σ.1 k' j' f') (h4 : cmK (ptU (A 12 (3 * b + c)) x w) (A 6 b 2) (3 * b + c) σ') : Cm (aU A 12 (3 * b + c) x w) ns nb σ' := by
  have e : ∀ k' j' f', k' < 10 → σ'.1 k' j' f' = σ.1 k' j' f' := fun k' j' f' hk => h3 k' j' f' (by omega)
  obtain ⟨a1, a2, a3, a4, a5, a6, a7⟩ := h
  refine ⟨fun i hi => ?_, fun j hj => ?_, fun j hj y hy => by rw [e _ _ _ (by decide)]; exact a3 j hj y hy, fun j hj y hy => by rw [e _ _ _ (by decide)]; exact a4 j hj y hy, fun j hj d hd => ?_, ⟨by rw [e _ _ _ (by decide)]; exact a6.1, by rw [e _ _ _ (by decide)]; exact a6.2.1, fun j hj => by rw [e _ _ _ (by decide)]; exact a6.2.2 j hj⟩, ?_⟩
  · simp only [e 5 _ _ (by decide), h2]; exact a1 i hi
  · simp only [e 6 _ _ (by decide), h2]; exact a2 j hj
  · by_cases q : 3 * j + d = 3 * b + c
    · obtain ⟨rfl, rfl⟩ : j = b ∧ d = c := by omega
      rw [pt_row]
      exact h4
    · rw [pt_row2 _ _ _ q]
      have a := a5 j hj d hd
      refine ⟨?_, fun y hy => ?_, fun y hy => ?_⟩
      · rw [h3 _ _ _ (by omega)]; exact a.1
      · rw [h3 _ _ _ (by omega)]; exact a.2.1 y hy
      · rw [h3 _ _ _ (by omega)]; exact a.2.2 y hy
  · unfold cPl; simp only [e 0 _ _ (by decide)]; exact a7
theorem Wf.pt {A : Ab} {ns nb T b c x w : Nat} (h : Wf A ns nb T) (hb : b < nb) (hc : c < 3) (hx : x < A 6 b 2) (hw : w ≤ 101) (hp : ptsA (ptU (A 12 (3 * b + c)) x w) (A 6 b 2) ≤ 8) : Wf (aU A 12 (3 * b + c) x w) ns nb T := by
  obtain ⟨h1, h2, h3, h4, h5, h6, h7, ⟨c1, c2, c3⟩, h9, h10⟩ := h
  refine ⟨h1, h2, h3, h4, h5, h6, h7, ⟨fun k y => ?_, fun k hk y => ?_, fun j hj d hd => ?_⟩, h9, h10⟩
  · rw [aU_eq]
    split
    · exact hw
    · exact c1 k y
  · rw [aU_i (by omega)]
    exact c2 k hk y
  · by_cases q : 3 * j + d = 3 * b + c
    · obtain ⟨rfl, rfl⟩ : j = b ∧ d = c := by omega
      refine ⟨fun y hy => ?_, ?_⟩
      · have hy : A 6 j 2 ≤ y := hy
        rw [aU_f (by omega)]
        exact (c3 j hj d hd).1 y hy
      · rw [pt_row]
        exact hp
    · refine ⟨fun y hy => ?_, ?_⟩
      · rw [aU_i q]
        exact (c3 j hj d hd).1 y hy
      · rw [pt_row2 _ _ _ q]
        exact (c3 j hj d hd).2
/-! POINT -/
theorem m1or {a : Int32} (h1 : ¬ a < -1) (h2 : ¬ 100 < a) : a = -1 ∨ ∃ v, v ≤ 100 ∧ a = nI v := by
  rw [Int32.lt_iff_toInt_lt, m1I] at h1
  rw [Int32.lt_iff_toInt_lt, show (100 : Int32).toInt = 100 by decide] at h2
  by_cases h : a.toInt = -1
  · exact Or.inl (Int32.toInt_inj.mp (h.trans m1I.symm))
  · refine Or.inr ⟨a.toInt.toNat, by omega, Int32.toInt_inj.mp ?_⟩
    rw [nI_toInt (by omega)]
    omega
theorem nIs1 {v : Nat} : nI v = nI (v + 1) - 1 := (nI_pred v).symm
