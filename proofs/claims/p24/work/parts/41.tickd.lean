/-! A TICK, IN THE COMPONENT: A SPRING'S GOING, SHARING, THE TICK -/
theorem pull_bd {A : Ab} {ns nb T s : Nat} (hW : Wf A ns nb T) (hs : s < ns) : A 5 s 0 * A 5 s 1 ≤ 50 * 200000 := by
  obtain ⟨-, b2, b3, -⟩ := hW.2.2.2.1.1 s hs
  exact Nat.mul_le_mul b2 b3
theorem loadA_bd {A : Ab} {ns nb T s : Nat} (hW : Wf A ns nb T) : 10 ≤ loadA A nb s ∧ loadA A nb s ≤ 1000 := by
  have h8 := hW.2.1
  have hb := fb_sm_bound (f := fun b => if drA A s b then ldN A b else 0) (c := 80) (n := nb) (fun b hb => by
    show (if drA A s b then ldN A b else 0) ≤ 80
    split
    · have w1 := (hW.2.2.2.2.1 b hb).2.1
      have hp := plA_lt hW hb
      have l : ∀ c, c < 3 → lfN A b c (plA A b) ≤ 100 := fun c hc => by
        have h := lfA_bnd (P := A 12 (3 * b + c)) (fun y => hW.2.2.2.2.2.2.2.1.1 _ y) hp
        unfold lfN
        omega
      have l0 := l 0 (by decide)
      have l1 := l 1 (by decide)
      have l2 := l 2 (by decide)
      unfold ldN
      omega
    · omega)
  unfold loadA
  omega
theorem speedC {A : Ab} {ns nb T s : Nat} {σ : Sg} (hC : Cm A ns nb σ) (hW : Wf A ns nb T) (hs : s < ns) : FX3_speedUnder ns nb σ s (nI (loadA A nb s)) = some (nI (speedA A nb s), σ) := by
  obtain ⟨c0, c1, -⟩ := hC.1 s hs
  obtain ⟨l1, l2⟩ := loadA_bd (s := s) hW
  have hp := pull_bd hW hs
  have hd : A 5 s 0 * A 5 s 1 / (200 * loadA A nb s) ≤ A 5 s 0 * A 5 s 1 := Nat.div_le_self _ _
  have hh := (hW.2.2.2.1.1 s hs).2.2.1
  have e : (200 : Int32) * nI (loadA A nb s) = nI (200 * loadA A nb s) := by rw [show (200 : Int32) = nI 200 from rfl, pk_mul]
  unfold FX3_speedUnder
  rw [e, if_neg (nI_nle (by omega) (by omega)), if_neg (nI_ne0 (by omega) (by omega)), c0, c1, pk_mul, pk_div (by omega) (by omega) (by omega), show (1 : Int32) = nI 1 from rfl, mx_nI (by omega) (by decide), show (400 : Int32) = nI 400 from rfl, mn_nI (by omega) (by decide), mn_nI (by omega) (by omega)]
  rfl
theorem moveC {A : Ab} {ns nb T s v : Nat} {σ : Sg} (hC : Cm A ns nb σ) (hW : Wf A ns nb T) (hs : s < ns) (hv : v ≤ A 5 s 1) : ∃ σ' : Sg, FX3_turn ns nb σ s (nI v) = some σ' ∧ okC σ σ' ∧ Cm (moveA A s v) ns nb σ' := by
  obtain ⟨-, c1, c2, -⟩ := hC.1 s hs
  have hh := (hW.2.2.2.1.1 s hs).2.2.1
  have h1 : Cm (aU A 5 s 3 v) ns nb (sI σ 5 s 3 (nI v)) := hC.sp (Or.inr (Or.inl rfl))
  have h2 := h1.shf (i := s) (v := A 5 s 2 + v)
  have h3 := h2.sp (i := s) (f := 1) (v := A 5 s 1 - v) (Or.inl rfl)
  refine ⟨_, ?_, ((okC_I (by decide)).tr (okC_L (by decide))).tr (okC_I (by decide)), h3⟩
  unfold FX3_turn
  have e1 : (sI σ 5 s 3 (nI v)).2 5 s 2 + (nI v).toInt64 = lN (A 5 s 2 + v) := by
    rw [sI_2, c2, nI_l (by omega), lN_add]
  have e2 : (sL (sI σ 5 s 3 (nI v)) 5 s 2 (lN (A 5 s 2 + v))).1 5 s 1 - nI v = nI (A 5 s 1 - v) := by
    rw [sL_1, sI_eq, if_neg (by omega), c1, pk_sub hv]
  rw [e1, e2]
theorem shaftC {A : Ab} {ns nb T s : Nat} {σ : Sg} (hC : Cm A ns nb σ) (hW : Wf A ns nb T) (hT : T ≤ 516) (hs : s < ns) (hs2 : A 5 s 2 + 400 ≤ 400 * A 0 0 6) : ∃ σ' : Sg, FX4_goShaft ns nb σ (nI s) s = some (nI (shaftA A nb s 3 0 2 - A 3 0 2), σ') ∧ okC σ σ' ∧ Cm (shaftA A nb s) ns nb σ' := by
  have h4 := hW.1
  obtain ⟨-, -, b3, -, b5⟩ := hW.2.2.2.1.1 s hs
  obtain ⟨c0, c1, c2, c3, c4⟩ := hC.1 s hs
  have hz : Cm (aU A 5 s 3 0) ns nb (sI σ 5 s 3 0) := hC.sp (v := 0) (Or.inr (Or.inl rfl))
  unfold FX4_goShaft shaftA
  rw [c4, c1]
  by_cases h0 : A 5 s 4 = 0
  · rw [h0, if_pos (show nI 0 = 0 from rfl)]
    by_cases h1 : A 5 s 1 = 0
    · rw [h1, if_neg (show ¬ (0 : Int32) < nI 0 by decide), if_neg (fun q => q.2 rfl)]
      refine ⟨_, ?_, okC_I (by decide), hz⟩
      rw [aU_k (by decide), Nat.sub_self]
      rfl
    · rw [if_pos (show (0 : Int32) < nI (A 5 s 1) from nI_lt (a := 0) (by omega) (by omega)), if_pos ⟨rfl, h1⟩, loadC hC hW hT (by omega), Option.bind_some]
      dsimp only
      rw [speedC hC hW hs, Option.bind_some]
      dsimp only
      obtain ⟨v1, v2, v3⟩ := speed_le A nb s
      obtain ⟨σ1, p1, p2, p3⟩ := moveC hC hW hs v2
      obtain ⟨m1, m2⟩ := move_ok hW hs v1 hs2
      obtain ⟨σ', t1, t2, t3⟩ := birdsC (ns := ns) (T := T) (s := s) (by omega) hT hW.2.1 8 0 0 4100 _ σ1 (by omega) (by omega) m1 p3
      rw [p1, Option.bind_some, show LX4_goShaft_39 ns nb (nI s) s 4100 0 0 σ1 = _ from t1, Option.bind_some, Nat.zero_add]
      exact ⟨σ', rfl, p2.tr t2, t3⟩
  · rw [if_neg (nI_ne0 (by omega) (by omega)), if_neg (fun q => h0 q.1)]
    refine ⟨_, ?_, okC_I (by decide), hz⟩
    rw [aU_k (by decide), Nat.sub_self]
    rfl
theorem springsC {ns nb T : Nat} (hT : T ≤ 516) : ∀ (m s c fuel : Nat) (A : Ab) (σ : Sg), s + m = 4 → m < fuel → Wf A ns nb T → (∀ i, s ≤ i → i < ns → A 5 i 2 + 400 ≤ 400 * A 0 0 6) → Cm A ns nb σ → ∃ σ' : Sg, LX4_goOneTick_18 ns nb fuel (nI c) (nI s) σ = some (nI (c + (springsA nb (ns - s) s A 3 0 2 - A 3 0 2)), σ') ∧ okC σ σ' ∧ Cm (springsA nb (ns - s) s A) ns nb σ' := by
  intro m
  induction m with
  | zero =>
    intro s c fuel A σ hs hf hW hg hC
    have h4 := hW.1
    obtain ⟨u, rfl⟩ : ∃ u, fuel = u + 1 := ⟨fuel - 1, by omega⟩
    have : s = 4 := by omega
    subst this
    rw [show ns - 4 = 0 by omega, springsA]
    refine ⟨σ, ?_, okC.rf, hC⟩
    rw [LX4_goOneTick_18, if_pos (show (4 : Int32) ≤ nI 4 by decide), Nat.sub_self, Nat.add_zero]
  | succ m ih =>
    intro s c fuel A σ hs hf hW hg hC
    obtain ⟨u, rfl⟩ : ∃ u, fuel = u + 1 := ⟨fuel - 1, by omega⟩
    rw [LX4_goOneTick_18, if_neg (show ¬ ((4 : Int32) ≤ nI s) from nI_ge (b := 4) (by omega) (by omega)), if_neg (nI_in (by omega) (by omega)), nI_clamp (by omega), r1]
    by_cases hn : s < ns
    · obtain ⟨n1, n2⟩ := shaft_ok hW hn (hg s (Nat.le_refl _) hn)
      obtain ⟨σ1, p1, p2, p3⟩ := shaftC hC hW hT hn (hg s (Nat.le_refl _) hn)
      have hg' : ∀ i, s + 1 ≤ i → i < ns → shaftA A nb s 5 i 2 + 400 ≤ 400 * shaftA A nb s 0 0 6 := fun i h1 h2 => by
        rw [n2.1 5 i 2 (by decide) (by decide) (by omega) (by omega), n2.1 0 0 6 (by decide) (by decide) (by omega) (by omega)]
        exact hg i (by omega) h2
      obtain ⟨σ', t1, t2, t3⟩ := ih (s + 1) (c + (shaftA A nb s 3 0 2 - A 3 0 2)) u _ σ1 (by omega) (by omega) n1 hg' p3
      have hle := (springs_ok (ns - (s + 1)) (s + 1) _ (by omega) n1 hg').2.2.1
      have hle2 := n2.2.1
      rw [iO_in hn, oc_s, if_pos hn, show ns - s = (ns - (s + 1)) + 1 by omega, springsA, p1, Option.bind_some]
      dsimp only
      rw [nI_add, t1]
      refine ⟨σ', ?_, p2.tr t2, t3⟩
      congr 2
      congr 1
      omega
    · rw [iO_out hn, oc_n]
      have i := ih (s + 1) c u A σ (by omega) (by omega) hW (fun i h1 h2 => by omega) hC
      rw [show ns - (s + 1) = 0 by omega, springsA] at i
      rw [show ns - s = 0 by omega, springsA]
      exact i
/-- the amount that goes over -/
theorem shd {x y : Nat} (h1 : x ≤ 200000) (h2 : y ≤ 200000) : nI x - (nI x - nI y) / 10 = nI (if y ≤ x then x - (x - y) / 10 else x + (y - x) / 10) ∧ nI y + (nI x - nI y) / 10 = nI (if y ≤ x then y + (x - y) / 10 else y - (y - x) / 10) := by
  by_cases h : y ≤ x
  · rw [if_pos h, if_pos h, pk_sub h, show (10 : Int32) = nI 10 from rfl, pk_div (by omega) (by decide) (by decide), pk_sub (by omega), nI_add]
    exact ⟨rfl, rfl⟩
  · have ex : (nI x).toInt = (x : Int) := nI_toInt (by omega)
    have ey : (nI y).toInt = (y : Int) := nI_toInt (by omega)
    have es : (nI x - nI y).toInt = -((y - x : Nat) : Int) := by
      rw [fb_subI, ex, ey] <;> (try rw [ex, ey]) <;> omega
    have ed : ((nI x - nI y) / 10).toInt = -(((y - x) / 10 : Nat) : Int) := by
      rw [Int32.toInt_div, es, show (10 : Int32).toInt = 10 by decide, Int.neg_tdiv, Int.tdiv_eq_ediv_of_nonneg (by omega)]
      have e10 : ((y - x : Nat) : Int) / 10 = (((y - x) / 10 : Nat) : Int) := by omega
      rw [e10, fb_bmod] <;> omega
    rw [if_neg h, if_neg h]
    constructor
    · refine Int32.toInt_inj.mp ?_
      rw [fb_subI, ed, ex, nI_toInt (by omega)] <;> (try rw [ed, ex]) <;> omega
    · refine Int32.toInt_inj.mp ?_
      rw [fb_addI, ed, ey, nI_toInt (by omega)] <;> (try rw [ed, ey]) <;> omega
theorem shareA_eq (A : Ab) {a b : Nat} : shareA A a b = aU (aU A 5 a 1 (if A 5 b 1 ≤ A 5 a 1 then A 5 a 1 - (A 5 a 1 - A 5 b 1) / 10 else A 5 a 1 + (A 5 b 1 - A 5 a 1) / 10)) 5 b 1 (if A 5 b 1 ≤ A 5 a 1 then A 5 b 1 + (A 5 a 1 - A 5 b 1) / 10 else A 5 b 1 - (A 5 b 1 - A 5 a 1) / 10) := by
  unfold shareA
  by_cases h : A 5 b 1 ≤ A 5 a 1
  · rw [if_pos h, if_pos h, if_pos h]
  · rw [if_neg h, if_neg h, if_neg h]
theorem shareC {A : Ab} {ns nb T a b : Nat} {σ : Sg} (hC : Cm A ns nb σ) (hW : Wf A ns nb T) (ha : a < ns) (hb : b < ns) (hab : a < b) : ∃ σ' : Sg, FX4_shareBetween ns nb σ (some a) (some b) = some σ' ∧ okC σ σ' ∧ Cm (shareA A a b) ns nb σ' := by
  have ca := (hC.1 a ha).2.1
  have cb := (hC.1 b hb).2.1
  have wa := (hW.2.2.2.1.1 a ha).2.2.1
  have wb := (hW.2.2.2.1.1 b hb).2.2.1
  obtain ⟨s1, s2⟩ := shd wa wb
  rw [shareA_eq]
  refine ⟨_, ?_, (okC_I (by decide)).tr (okC_I (by decide)), (hC.sp (i := a) (f := 1) (Or.inl rfl)).sp (i := b) (f := 1) (Or.inl rfl)⟩
  have y3 : ∀ v, (sI σ 5 a 1 v).1 5 b 1 = nI (A 5 b 1) := fun v => by
    rw [sI_eq, if_neg (by omega), cb]
  unfold FX4_shareBetween
  rw [oc_s, if_pos ha, oc_s, if_pos hb, ca, cb, s1, y3, s2]
theorem cp_bit : ∀ m x : Fin 4, m.val < x.val → ∀ a b c d e f : Fin 2, (nI (cp6 a.val b.val c.val d.val e.val f.val) &&& ((1 : Int32) <<< ((nI m.val * 4 + nI x.val) &&& 31)) = 0 ↔ (if m.val = 0 then (if x.val = 1 then a.val else if x.val = 2 then b.val else c.val) else if m.val = 1 then (if x.val = 2 then d.val else e.val) else f.val) = 0) := by decide +kernel
theorem cpBit {A : Ab} (h : wCp A) {m x : Nat} (hm : m < x) (hx : x < 4) : nI (cpA A) &&& ((1 : Int32) <<< ((nI m * 4 + nI x) &&& 31)) = 0 ↔ A 23 m x = 0 := by
  have f : ∀ a b, A 23 a b < 2 := fun a b => by have := h a b; omega
  have g := cp_bit ⟨m, by omega⟩ ⟨x, hx⟩ hm ⟨_, f 0 1⟩ ⟨_, f 0 2⟩ ⟨_, f 0 3⟩ ⟨_, f 1 2⟩ ⟨_, f 1 3⟩ ⟨_, f 2 3⟩
  rw [cpA_6]
  refine g.trans ?_
  dsimp only
  rcases (show (m = 0 ∧ x = 1) ∨ (m = 0 ∧ x = 2) ∨ (m = 0 ∧ x = 3) ∨ (m = 1 ∧ x = 2) ∨ (m = 1 ∧ x = 3) ∨ (m = 2 ∧ x = 3) by omega) with ⟨rfl, rfl⟩ | ⟨rfl, rfl⟩ | ⟨rfl, rfl⟩ | ⟨rfl, rfl⟩ | ⟨rfl, rfl⟩ | ⟨rfl, rfl⟩ <;> exact Iff.rfl
theorem shBC {ns nb T a : Nat} (ha : a < 4) : ∀ (m b fuel : Nat) (A : Ab) (σ : Sg), b + m = 4 → m < fuel → a < b → Wf A ns nb T → Cm A ns nb σ → ∃ σ' : Sg, LX4_shareBetweenCoupled_15 ns nb (nI a) fuel (nI b) σ = some σ' ∧ okC σ σ' ∧ Cm (shBA ns a m b A) ns nb σ' := by
  intro m
  induction m with
  | zero =>
    intro b fuel A σ hb hf hab hW hC
    obtain ⟨u, rfl⟩ : ∃ u, fuel = u + 1 := ⟨fuel - 1, by omega⟩
    have : b = 4 := by omega
    subst this
    refine ⟨σ, ?_, okC.rf, hC⟩
    rw [LX4_shareBetweenCoupled_15, if_pos (show (4 : Int32) ≤ nI 4 by decide)]
  | succ m ih =>
    intro b fuel A σ hb hf hab hW hC
    obtain ⟨u, rfl⟩ : ∃ u, fuel = u + 1 := ⟨fuel - 1, by omega⟩
    have h4 := hW.1
    have hwc : wCp A := hW.2.2.2.2.2.2.2.2.2
    have hb1 := hwc a b
    have e5 : σ.1 0 0 5 = nI (cpA A) := hC.2.2.2.2.2.2.2.2.1
    have epb : FX4_pairBit ns nb σ (nI a) (nI b) = some ((1 : Int32) <<< ((nI a * 4 + nI b) &&& 31), σ) := by
      unfold FX4_pairBit
      rw [mn_nI (by omega) (by omega), mx_nI (by omega) (by omega), Nat.min_eq_left (by omega), Nat.max_eq_right (by omega)]
    rw [LX4_shareBetweenCoupled_15, if_neg (show ¬ ((4 : Int32) ≤ nI b) from nI_ge (b := 4) (by omega) (by omega)), epb, Option.bind_some, shBA, nI_1]
    dsimp only
    rw [e5]
    by_cases hz : A 23 a b = 0
    · rw [if_pos ((cpBit hwc hab (by omega)).mpr hz), if_neg (by omega)]
      exact ih (b + 1) u A σ (by omega) (by omega) (by omega) hW hC
    · rw [if_neg (fun q => hz ((cpBit hwc hab (by omega)).mp q))]
      by_cases hna : a < ns
      · rw [spAt_in h4 hna, Option.bind_some, oc_s, if_pos hna]
        dsimp only
        by_cases hnb : b < ns
        · obtain ⟨n1, n2⟩ := share_ok hW hna hnb
          obtain ⟨σ1, p1, p2, p3⟩ := shareC hC hW hna hnb hab
          obtain ⟨σ', t1, t2, t3⟩ := ih (b + 1) u _ σ1 (by omega) (by omega) (by omega) n1 p3
          rw [spAt_in h4 hnb, Option.bind_some, oc_s, if_pos hnb, p1, Option.bind_some, t1, if_pos ⟨hna, hnb, by omega⟩]
          exact ⟨σ', rfl, p2.tr t2, t3⟩
        · rw [spAt_out h4 (fun q => by rw [vp_in_iff, nI_toInt (by omega)] at q; omega), Option.bind_some, oc_n, if_neg (fun q => hnb q.2.1)]
          have e : FX4_shareBetween ns nb σ (some a) none = some σ := by
            unfold FX4_shareBetween
            rw [oc_s, if_pos hna, oc_n]
          rw [e, Option.bind_some]
          exact ih (b + 1) u A σ (by omega) (by omega) (by omega) hW hC
      · rw [spAt_out h4 (fun q => by rw [vp_in_iff, nI_toInt (by omega)] at q; omega), Option.bind_some, oc_n, if_neg (fun q => hna q.1)]
        dsimp only
        rw [spAt_out h4 (fun q => by rw [vp_in_iff, nI_toInt (by omega)] at q; omega), Option.bind_some, oc_n]
        have e : FX4_shareBetween ns nb σ none none = some σ := by
          unfold FX4_shareBetween
          rw [oc_n, oc_n]
        rw [e, Option.bind_some]
        exact ih (b + 1) u A σ (by omega) (by omega) (by omega) hW hC
theorem shAC {ns nb T : Nat} : ∀ (m a fuel : Nat) (A : Ab) (σ : Sg), a + m = 4 → m < fuel → Wf A ns nb T → Cm A ns nb σ → ∃ σ' : Sg, LX4_shareBetweenCoupled_2 ns nb fuel (nI a) σ = some σ' ∧ okC σ σ' ∧ Cm (shAA ns m a A) ns nb σ' := by
  intro m
  induction m with
  | zero =>
    intro a fuel A σ ha hf hW hC
    obtain ⟨u, rfl⟩ : ∃ u, fuel = u + 1 := ⟨fuel - 1, by omega⟩
    have : a = 4 := by omega
    subst this
    refine ⟨σ, ?_, okC.rf, hC⟩
    rw [LX4_shareBetweenCoupled_2, if_pos (show (4 : Int32) ≤ nI 4 by decide)]
  | succ m ih =>
    intro a fuel A σ ha hf hW hC
    obtain ⟨u, rfl⟩ : ∃ u, fuel = u + 1 := ⟨fuel - 1, by omega⟩
    obtain ⟨σ1, p1, p2, p3⟩ := shBC (ns := ns) (T := T) (a := a) (by omega) (4 - (a + 1)) (a + 1) 4100 A σ (by omega) (by omega) (by omega) hW hC
    obtain ⟨n1, -⟩ := shB_ok (a := a) (4 - (a + 1)) (a + 1) A hW
    obtain ⟨σ', t1, t2, t3⟩ := ih (a + 1) u _ σ1 (by omega) (by omega) n1 p3
    rw [LX4_shareBetweenCoupled_2, if_neg (show ¬ ((4 : Int32) ≤ nI a) from nI_ge (b := 4) (by omega) (by omega)), nI_1, p1, Option.bind_some, t1, shAA]
    exact ⟨σ', rfl, p2.tr t2, t3⟩
theorem tickC {A : Ab} {ns nb T : Nat} {σ : Sg} (hC : Cm A ns nb σ) (hW : Wf A ns nb T) (hT : T ≤ 516) (ht : A 0 0 6 < 500 * T) : ∃ σ' : Sg, FX4_goOneTick ns nb σ = some (nI (tickA ns nb A 3 0 2 - A 3 0 2), σ') ∧ okC σ σ' ∧ Cm (tickA ns nb A) ns nb σ' := by
  have h4 := hW.1
  have c6 : σ.1 0 0 6 = nI (A 0 0 6) := hC.2.2.2.2.2.2.2.2.2
  obtain ⟨n1, n2, n3⟩ := tick_in (ns := ns) hW ht
  obtain ⟨σ1, p1, p2, p3⟩ := shAC (ns := ns) (T := T) 4 0 4100 (aU A 0 0 6 (A 0 0 6 + 1)) (sI σ 0 0 6 (nI (A 0 0 6 + 1))) (by omega) (by omega) (hW.tk (by omega) (by omega)) hC.tk
  obtain ⟨σ', t1, t2, t3⟩ := springsC (ns := ns) (nb := nb) hT 4 0 0 4100 _ σ1 (by omega) (by omega) n1 n2 p3
  have e2 : shAA ns 4 0 (aU A 0 0 6 (A 0 0 6 + 1)) 3 0 2 = A 3 0 2 := (shA_ok (ns := ns) 4 0 _ (hW.tk (v := A 0 0 6 + 1) (by omega) (by omega))).2 3 0 2 (by omega)
  rw [e2] at t1
  refine ⟨σ', ?_, ((okC_I (by decide)).tr p2).tr t2, t3⟩
  unfold FX4_goOneTick FX4_shareBetweenCoupled
  rw [c6, nI_1, show LX4_shareBetweenCoupled_2 ns nb 4100 0 (sI σ 0 0 6 (nI (A 0 0 6 + 1))) = _ from p1, Option.bind_some, Option.bind_some, show LX4_goOneTick_18 ns nb 4100 0 0 σ1 = _ from t1, Option.bind_some, Nat.zero_add]
  rfl
/-! RUN -/
theorem Wf.cap {A : Ab} {ns nb T T' : Nat} (h : Wf A ns nb T) (ht : A 0 0 6 ≤ 500 * T') : Wf A ns nb T' := ⟨h.1, h.2.1, ht, h.2.2.2⟩
theorem rnC {ns nb T j : Nat} (hT : T ≤ 516) (hj : j < 100000) : ∀ (m i c fuel : Nat) (A : Ab) (σ : Sg), i + m = j → m < fuel → Wf A ns nb T → A 0 0 6 + m ≤ 500 * T → Cm A ns nb σ → ∃ σ' : Sg, LX4_run_25 ns nb (nI j) fuel (nI c) (nI i) σ = some (nI (c + (runA ns nb m A 3 0 2 - A 3 0 2)), σ') ∧ okC σ σ' ∧ Cm (runA ns nb m A) ns nb σ' := by
  intro m
  induction m with
  | zero =>
    intro i c fuel A σ hi hf hW ht hC
    obtain ⟨u, rfl⟩ : ∃ u, fuel = u + 1 := ⟨fuel - 1, by omega⟩
    refine ⟨σ, ?_, okC.rf, hC⟩
    rw [LX4_run_25, if_pos (nI_le (by omega) (by omega)), runA, Nat.sub_self, Nat.add_zero]
  | succ m ih =>
    intro i c fuel A σ hi hf hW ht hC
    obtain ⟨u, rfl⟩ : ∃ u, fuel = u + 1 := ⟨fuel - 1, by omega⟩
    obtain ⟨n1, n2, n3⟩ := tick_ok (ns := ns) (nb := nb) hW (by omega)
    obtain ⟨σ1, p1, p2, p3⟩ := tickC hC hW hT (by omega)
    obtain ⟨σ', t1, t2, t3⟩ := ih (i + 1) (c + (tickA ns nb A 3 0 2 - A 3 0 2)) u _ σ1 (by omega) (by omega) n1 (by omega) p3
    have hle := (run_in (ns := ns) (nb := nb) m _ n1 (by omega)).2.1.2.1
    have hle2 := n2.2.1
    rw [LX4_run_25, if_neg (nI_ge (by omega) (by omega)), p1, Option.bind_some, runA]
    dsimp only
    rw [nI_add, nI_1, t1]
    refine ⟨σ', ?_, p2.tr t2, t3⟩
    congr 2
    congr 1
    omega
