/-! A TICK, IN THE REFERENCE: BIRDS, SPRINGS, SHARING, THE TICK -/
theorem birdsM {ns nb T s : Nat} {g : Int32} (hs : s < 4) (hT : T ≤ 516) : ∀ (m b fuel : Nat) (A : Ab) (τ : Sg), b + m = nb → m < fuel → Wf A ns nb T → Mx A ns nb g τ → ∃ τ' : Sg, LX5_oneTick_222 ns nb (nI s) fuel (nI b) τ = some τ' ∧ okM g τ τ' ∧ Mx (birdsA s m b A) ns nb g τ' := by
  intro m
  induction m with
  | zero =>
    intro b fuel A τ hb hf hW hM
    have h8 := hW.2.1
    obtain ⟨u, rfl⟩ : ∃ u, fuel = u + 1 := ⟨fuel - 1, by omega⟩
    have e3 : τ.1 20 0 3 = nI nb := hM.2.2.2.2.2.2.2.2.1
    refine ⟨τ, ?_, okM.rf, hM⟩
    rw [LX5_oneTick_222, e3, if_pos (nI_le (by omega) (by omega))]
  | succ m ih =>
    intro b fuel A τ hb hf hW hM
    have h8 := hW.2.1
    have h4 := hW.1
    obtain ⟨u, rfl⟩ : ∃ u, fuel = u + 1 := ⟨fuel - 1, by omega⟩
    have e3 : τ.1 20 0 3 = nI nb := hM.2.2.2.2.2.2.2.2.1
    have hn : b < nb := by omega
    obtain ⟨g0, -, g6⟩ := gtBX (ns := ns) hM h8 hn
    obtain ⟨w0, -, -, -, -, -, -, -, -, w9, -⟩ := hW.2.2.2.2.1 b hn
    rw [LX5_oneTick_222, e3, if_neg (nI_ge (by omega) (by omega)), g0, Option.bind_some, birdsA, nI_1]
    dsimp only
    by_cases h0 : A 6 b 0 = s
    · rw [if_pos (congrArg nI h0), g6, Option.bind_some]
      dsimp only
      by_cases h9 : A 6 b 9 = 1
      · have hd : drA A s b = true := by unfold drA; simp [h9, h0]
        obtain ⟨n1, n2⟩ := turn_ok hW hn
        obtain ⟨τ1, p1, p2, p3⟩ := turnM hM hW hT hn
        obtain ⟨τ', t1, t2, t3⟩ := ih (b + 1) u _ τ1 (by omega) (by omega) n1 p3
        rw [if_pos (show nI (A 6 b 9) = 1 by rw [h9]; rfl), p1, Option.bind_some, if_pos ⟨Nat.le_refl _, p2.2.1⟩, t1, Option.bind_some, if_pos t2.2.1, Option.bind_some, if_pos t2.2.1, if_pos hd]
        exact ⟨τ', rfl, p2.tr t2, t3⟩
      · have hd : ¬ drA A s b = true := by unfold drA; simp [h9]
        obtain ⟨τ', t1, t2, t3⟩ := ih (b + 1) u A τ (by omega) (by omega) hW hM
        rw [if_neg (show ¬ nI (A 6 b 9) = 1 from fun q => h9 ((nI_eq (b := 1) (by omega) (by decide)).mp q)), if_pos (Nat.le_refl _), t1, Option.bind_some, if_pos t2.2.1, if_neg hd]
        exact ⟨τ', rfl, t2, t3⟩
    · have hd : ¬ drA A s b = true := by unfold drA; simp [h0]
      obtain ⟨τ', t1, t2, t3⟩ := ih (b + 1) u A τ (by omega) (by omega) hW hM
      rw [if_neg (fun q => h0 ((nI_eq (by omega) (by omega)).mp q)), if_pos (Nat.le_refl _), t1, Option.bind_some, if_pos t2.2.1, if_neg hd]
      exact ⟨τ', rfl, t2, t3⟩
theorem speedM {A : Ab} {ns nb T s : Nat} (hW : Wf A ns nb T) (hs : s < ns) : ¬ (200 * nI (loadA A nb s) = 0) ∧ mnI (nI (A 5 s 1)) (mxI 1 (mnI 400 ((nI (A 5 s 0) * nI (A 5 s 1)) / (200 * nI (loadA A nb s))))) = nI (speedA A nb s) := by
  obtain ⟨l1, l2⟩ := loadA_bd (s := s) hW
  have hp := pull_bd hW hs
  have hd : A 5 s 0 * A 5 s 1 / (200 * loadA A nb s) ≤ A 5 s 0 * A 5 s 1 := Nat.div_le_self _ _
  have hh := (hW.2.2.2.1.1 s hs).2.2.1
  have e : (200 : Int32) * nI (loadA A nb s) = nI (200 * loadA A nb s) := by rw [show (200 : Int32) = nI 200 from rfl, pk_mul]
  rw [e]
  refine ⟨nI_ne0 (by omega) (by omega), ?_⟩
  rw [pk_mul, pk_div (by omega) (by omega) (by omega), show (400 : Int32) = nI 400 from rfl, mn_nI (by decide) (by omega), show (1 : Int32) = nI 1 from rfl, mx_nI (by decide) (by omega), mn_nI (by omega) (by omega)]
  unfold speedA
  congr 1
  omega
theorem springsM {ns nb T : Nat} {g : Int32} (hT : T ≤ 516) : ∀ (m s fuel : Nat) (A : Ab) (τ : Sg), s + m = ns → m < fuel → Wf A ns nb T → (∀ i, s ≤ i → i < ns → A 5 i 2 + 400 ≤ 400 * A 0 0 6) → Mx A ns nb g τ → ∃ τ' : Sg, LX5_oneTick_107 ns nb fuel (nI s) τ = some τ' ∧ okM g τ τ' ∧ Mx (springsA nb m s A) ns nb g τ' := by
  intro m
  induction m with
  | zero =>
    intro s fuel A τ hs hf hW hg hM
    have h4 := hW.1
    obtain ⟨u, rfl⟩ : ∃ u, fuel = u + 1 := ⟨fuel - 1, by omega⟩
    have e2 : τ.1 20 0 2 = nI ns := hM.2.2.2.2.2.2.2.1
    refine ⟨τ, ?_, okM.rf, hM⟩
    rw [LX5_oneTick_107, e2, if_pos (nI_le (by omega) (by omega))]
  | succ m ih =>
    intro s fuel A τ hs hf hW hg hM
    have h4 := hW.1
    obtain ⟨u, rfl⟩ : ∃ u, fuel = u + 1 := ⟨fuel - 1, by omega⟩
    have e2 : τ.1 20 0 2 = nI ns := hM.2.2.2.2.2.2.2.1
    have hn : s < ns := by omega
    have hi : s < 4 := by omega
    obtain ⟨b1, b2, b3, b4, b5⟩ := hW.2.2.2.1.1 s hn
    have m0 : FX5_sp ns nb τ (nI s) 0 = some (nI (A 5 s 0), τ) := by rw [← hM.1 s hi 0 (by decide)]; exact sp5 (f := 0) hi (by decide)
    have m1 : FX5_sp ns nb τ (nI s) 1 = some (nI (A 5 s 1), τ) := by rw [← hM.1 s hi 1 (by decide)]; exact sp5 (f := 1) hi (by decide)
    have m4 : FX5_sp ns nb τ (nI s) 4 = some (nI (A 5 s 4), τ) := by rw [← hM.1 s hi 4 (by decide)]; exact sp5 (f := 4) hi (by decide)
    have x1 := ix5 (i := s) (f := 1) hi (by decide)
    have x2 := ix5 (i := s) (f := 2) hi (by decide)
    have x3 := ix5 (i := s) (f := 3) hi (by decide)
    have x11 : ¬ ((5 * nI s + 1) < 0 ∨ 20 ≤ (5 * nI s + 1).toNatClampNeg) := x1.1
    have x12 : (5 * nI s + 1).toNatClampNeg = 5 * s + 1 := x1.2
    have x21 : ¬ ((5 * nI s + 2) < 0 ∨ 20 ≤ (5 * nI s + 2).toNatClampNeg) := x2.1
    have x22 : (5 * nI s + 2).toNatClampNeg = 5 * s + 2 := x2.2
    have x31 : ¬ ((5 * nI s + 3) < 0 ∨ 20 ≤ (5 * nI s + 3).toNatClampNeg) := x3.1
    have x32 : (5 * nI s + 3).toNatClampNeg = 5 * s + 3 := x3.2
    obtain ⟨n1, n2⟩ := shaft_ok hW hn (hg s (Nat.le_refl _) hn)
    have hg' : ∀ i, s + 1 ≤ i → i < ns → shaftA A nb s 5 i 2 + 400 ≤ 400 * shaftA A nb s 0 0 6 := fun i h1 h2 => by
      rw [n2.1 5 i 2 (by decide) (by decide) (by omega) (by omega), n2.1 0 0 6 (by decide) (by decide) (by omega) (by omega)]
      exact hg i (by omega) h2
    have hz : Mx (aU A 5 s 3 0) ns nb g (sI τ 21 0 (5 * s + 3) 0) := hM.sp (v := 0) hi (by decide)
    have kz : okM g τ (sI τ 21 0 (5 * s + 3) 0) := okM_I (by decide) (by decide) (Or.inl (by decide))
    rw [LX5_oneTick_107, e2, if_neg (nI_ge (by omega) (by omega)), m1, Option.bind_some]
    dsimp only
    rw [m4, Option.bind_some, nI_1, springsA]
    dsimp only
    by_cases h1 : A 5 s 4 = 1
    · have es : shaftA A nb s = aU A 5 s 3 0 := by
        unfold shaftA
        rw [if_neg (fun q => by omega)]
      rw [es] at n1 hg' ⊢
      obtain ⟨τ', t1, t2, t3⟩ := ih (s + 1) u _ _ (by omega) (by omega) n1 hg' hz
      rw [if_pos (show nI (A 5 s 4) = 1 by rw [h1]; rfl), if_neg x31, x32, if_pos kz.2.1, t1, Option.bind_some, if_pos t2.2.1]
      exact ⟨τ', rfl, kz.tr t2, t3⟩
    · rw [if_neg (show ¬ nI (A 5 s 4) = 1 from fun q => h1 ((nI_eq (b := 1) (by omega) (by decide)).mp q))]
      by_cases hh : A 5 s 1 = 0
      · have es : shaftA A nb s = aU A 5 s 3 0 := by
          unfold shaftA
          rw [if_neg (fun q => q.2 hh)]
        rw [es] at n1 hg' ⊢
        obtain ⟨τ', t1, t2, t3⟩ := ih (s + 1) u _ _ (by omega) (by omega) n1 hg' hz
        rw [if_pos (show nI (A 5 s 1) = 0 by rw [hh]; rfl), if_neg x31, x32, if_pos kz.2.1, t1, Option.bind_some, if_pos t2.2.1]
        exact ⟨τ', rfl, kz.tr t2, t3⟩
      · obtain ⟨v1, v2, v3⟩ := speed_le A nb s
        have v3 := v3 hh
        obtain ⟨q1, q2⟩ := speedM hW hn
        obtain ⟨w1, w2⟩ := move_ok hW hn v1 (hg s (Nat.le_refl _) hn)
        have es : shaftA A nb s = birdsA s nb 0 (moveA A s (speedA A nb s)) := by
          unfold shaftA
          rw [if_pos ⟨by omega, hh⟩]
        rw [es] at n1 hg' ⊢
        obtain ⟨v, ev⟩ : ∃ v, v = speedA A nb s := ⟨_, rfl⟩
        rw [← ev] at v1 v2 v3 q2 w1 w2 n1 hg' ⊢
        rw [if_neg (nI_ne0 (by omega) (by omega)), m0, Option.bind_some]
        dsimp only
        rw [loadMX hM hW hi, Option.bind_some]
        dsimp only
        rw [if_neg q1, if_neg x31, q2, if_neg (nI_ne0 (by omega) (by omega)), if_neg x11, if_neg x11, if_neg x21, if_neg x21, x32, x12, x22]
        have e1 : (sI τ 21 0 (5 * s + 3) (nI v)).1 21 0 (5 * s + 1) - nI v = nI (A 5 s 1 - v) := by
          rw [sI_eq, if_neg (by omega), hM.1 s hi 1 (by decide), pk_sub v2]
        have e3 : (sI (sI τ 21 0 (5 * s + 3) (nI v)) 21 0 (5 * s + 1) (nI (A 5 s 1 - v))).1 21 0 (5 * s + 2) + nI v = nI (A 5 s 2 + v) := by
          rw [sI_eq, if_neg (by omega), sI_eq, if_neg (by omega), hM.1 s hi 2 (by decide), nI_add]
        rw [e1, e3]
        have hM3 : Mx (moveA A s v) ns nb g (sI (sI (sI τ 21 0 (5 * s + 3) (nI v)) 21 0 (5 * s + 1) (nI (A 5 s 1 - v))) 21 0 (5 * s + 2) (nI (A 5 s 2 + v))) := by
          have h3 := ((hM.sp (i := s) (f := 3) (v := v) hi (by decide)).sp (i := s) (f := 1) (v := A 5 s 1 - v) hi (by decide)).sp (i := s) (f := 2) (v := A 5 s 2 + v) hi (by decide)
          unfold moveA
          rw [aU_sw (f := 2) (f' := 1) (by omega)]
          exact h3
        have k3 : okM g τ (sI (sI (sI τ 21 0 (5 * s + 3) (nI v)) 21 0 (5 * s + 1) (nI (A 5 s 1 - v))) 21 0 (5 * s + 2) (nI (A 5 s 2 + v))) := ((okM_I (by decide) (by decide) (Or.inl (by decide))).tr (okM_I (by decide) (by decide) (Or.inl (by decide)))).tr (okM_I (by decide) (by decide) (Or.inl (by decide)))
        obtain ⟨τ1, p1, p2, p3⟩ := birdsM (ns := ns) (T := T) (g := g) (s := s) hi hT nb 0 4100 _ _ (by omega) (by have := hW.2.1; omega) w1 hM3
        obtain ⟨τ', t1, t2, t3⟩ := ih (s + 1) u _ τ1 (by omega) (by omega) n1 hg' p3
        rw [show LX5_oneTick_222 ns nb (nI s) 4100 0 _ = _ from p1, Option.bind_some, if_pos ⟨k3.2.1, p2.2.1⟩, t1, Option.bind_some, if_pos t2.2.1, Option.bind_some, if_pos t2.2.1]
        exact ⟨τ', rfl, (k3.tr p2).tr t2, t3⟩
theorem shBM {ns nb T a : Nat} {g : Int32} (ha : a < ns) : ∀ (m b fuel : Nat) (A : Ab) (τ : Sg), b + m = ns → m < fuel → a < b → Wf A ns nb T → Mx A ns nb g τ → ∃ τ' : Sg, LX5_oneTick_24 ns nb (nI a) fuel (nI b) τ = some τ' ∧ okM g τ τ' ∧ Mx (shBA ns a (4 - b) b A) ns nb g τ' := by
  intro m
  induction m with
  | zero =>
    intro b fuel A τ hb hf hab hW hM
    have h4 := hW.1
    obtain ⟨u, rfl⟩ : ∃ u, fuel = u + 1 := ⟨fuel - 1, by omega⟩
    have e2 : τ.1 20 0 2 = nI ns := hM.2.2.2.2.2.2.2.1
    refine ⟨τ, ?_, okM.rf, ?_⟩
    · rw [LX5_oneTick_24, e2, if_pos (nI_le (by omega) (by omega))]
    · rw [shB_out _ _ _ (by omega)]
      exact hM
  | succ m ih =>
    intro b fuel A τ hb hf hab hW hM
    have h4 := hW.1
    obtain ⟨u, rfl⟩ : ∃ u, fuel = u + 1 := ⟨fuel - 1, by omega⟩
    have e2 : τ.1 20 0 2 = nI ns := hM.2.2.2.2.2.2.2.1
    have hwc : wCp A := hW.2.2.2.2.2.2.2.2.2
    have hb1 := hwc a b
    have hg := ixg 4 (i := a) (f := b) (N := 16) (by omega) (by decide)
    have hg1 : ¬ ((4 * nI a + nI b) < 0 ∨ 16 ≤ (4 * nI a + nI b).toNatClampNeg) := hg.1
    have hg2 : (4 * nI a + nI b).toNatClampNeg = 4 * a + b := hg.2
    have e23 : τ.1 23 0 (4 * a + b) = nI (A 23 a b) := by
      rw [hM.2.2.2.2.2.2.1 a (by omega) b (by omega), if_pos hab]
    have h4b : 4 - b = (4 - (b + 1)) + 1 := by omega
    rw [LX5_oneTick_24, e2, if_neg (nI_ge (by omega) (by omega)), if_neg hg1, hg2, e23, h4b, shBA, nI_1]
    by_cases hz : A 23 a b = 0
    · obtain ⟨τ', t1, t2, t3⟩ := ih (b + 1) u A τ (by omega) (by omega) (by omega) hW hM
      rw [if_pos (show nI (A 23 a b) = 0 by rw [hz]; rfl), t1, Option.bind_some, if_pos t2.2.1, if_neg (by omega)]
      exact ⟨τ', rfl, t2, t3⟩
    · have hnb : b < ns := by omega
      have wa := (hW.2.2.2.1.1 a ha).2.2.1
      have wb := (hW.2.2.2.1.1 b hnb).2.2.1
      obtain ⟨s1, s2⟩ := shd wa wb
      have ma : FX5_sp ns nb τ (nI a) 1 = some (nI (A 5 a 1), τ) := by rw [← hM.1 a (by omega) 1 (by decide)]; exact sp5 (f := 1) (by omega) (by decide)
      have mb : FX5_sp ns nb τ (nI b) 1 = some (nI (A 5 b 1), τ) := by rw [← hM.1 b (by omega) 1 (by decide)]; exact sp5 (f := 1) (by omega) (by decide)
      have x1 := ix5 (i := a) (f := 1) (by omega) (by decide)
      have x2 := ix5 (i := b) (f := 1) (by omega) (by decide)
      have x11 : ¬ ((5 * nI a + 1) < 0 ∨ 20 ≤ (5 * nI a + 1).toNatClampNeg) := x1.1
      have x12 : (5 * nI a + 1).toNatClampNeg = 5 * a + 1 := x1.2
      have x21 : ¬ ((5 * nI b + 1) < 0 ∨ 20 ≤ (5 * nI b + 1).toNatClampNeg) := x2.1
      have x22 : (5 * nI b + 1).toNatClampNeg = 5 * b + 1 := x2.2
      have y1 : τ.1 21 0 (5 * a + 1) = nI (A 5 a 1) := hM.1 a (by omega) 1 (by decide)
      have y2 : τ.1 21 0 (5 * b + 1) = nI (A 5 b 1) := hM.1 b (by omega) 1 (by decide)
      obtain ⟨n1, n2⟩ := share_ok hW ha hnb
      rw [if_neg (nI_ne0 (by omega) (by omega)), ma, Option.bind_some]
      dsimp only
      rw [mb, Option.bind_some]
      dsimp only
      rw [if_neg x11, if_neg x11, if_neg x21, if_neg x21, x12, x22, y1, s1]
      have y3 : ∀ v, (sI τ 21 0 (5 * a + 1) v).1 21 0 (5 * b + 1) = nI (A 5 b 1) := fun v => by
        rw [sI_eq, if_neg (by omega), y2]
      rw [y3, s2]
      have hM2 := (hM.sp (i := a) (f := 1) (v := if A 5 b 1 ≤ A 5 a 1 then A 5 a 1 - (A 5 a 1 - A 5 b 1) / 10 else A 5 a 1 + (A 5 b 1 - A 5 a 1) / 10) (by omega) (by decide)).sp (i := b) (f := 1) (v := if A 5 b 1 ≤ A 5 a 1 then A 5 b 1 + (A 5 a 1 - A 5 b 1) / 10 else A 5 b 1 - (A 5 b 1 - A 5 a 1) / 10) (by omega) (by decide)
      rw [← shareA_eq] at hM2
      have k2 : okM g τ (sI (sI τ 21 0 (5 * a + 1) (nI (if A 5 b 1 ≤ A 5 a 1 then A 5 a 1 - (A 5 a 1 - A 5 b 1) / 10 else A 5 a 1 + (A 5 b 1 - A 5 a 1) / 10))) 21 0 (5 * b + 1) (nI (if A 5 b 1 ≤ A 5 a 1 then A 5 b 1 + (A 5 a 1 - A 5 b 1) / 10 else A 5 b 1 - (A 5 b 1 - A 5 a 1) / 10))) := (okM_I (by decide) (by decide) (Or.inl (by decide))).tr (okM_I (by decide) (by decide) (Or.inl (by decide)))
      obtain ⟨τ', t1, t2, t3⟩ := ih (b + 1) u _ _ (by omega) (by omega) (by omega) n1 hM2
      rw [if_pos k2.2.1, t1, Option.bind_some, if_pos t2.2.1, if_pos ⟨ha, hnb, by omega⟩]
      exact ⟨τ', rfl, k2.tr t2, t3⟩
theorem shAM {ns nb T : Nat} {g : Int32} : ∀ (m a fuel : Nat) (A : Ab) (τ : Sg), a + m = ns → m < fuel → Wf A ns nb T → Mx A ns nb g τ → ∃ τ' : Sg, LX5_oneTick_12 ns nb fuel (nI a) τ = some τ' ∧ okM g τ τ' ∧ Mx (shAA ns (4 - a) a A) ns nb g τ' := by
  intro m
  induction m with
  | zero =>
    intro a fuel A τ ha hf hW hM
    have h4 := hW.1
    obtain ⟨u, rfl⟩ : ∃ u, fuel = u + 1 := ⟨fuel - 1, by omega⟩
    have e2 : τ.1 20 0 2 = nI ns := hM.2.2.2.2.2.2.2.1
    refine ⟨τ, ?_, okM.rf, ?_⟩
    · rw [LX5_oneTick_12, e2, if_pos (nI_le (by omega) (by omega))]
    · rw [shA_out _ _ _ (by omega)]
      exact hM
  | succ m ih =>
    intro a fuel A τ ha hf hW hM
    have h4 := hW.1
    obtain ⟨u, rfl⟩ : ∃ u, fuel = u + 1 := ⟨fuel - 1, by omega⟩
    have e2 : τ.1 20 0 2 = nI ns := hM.2.2.2.2.2.2.2.1
    obtain ⟨τ1, p1, p2, p3⟩ := shBM (ns := ns) (T := T) (g := g) (a := a) (by omega) (ns - (a + 1)) (a + 1) 4100 A τ (by omega) (by omega) (by omega) hW hM
    obtain ⟨n1, -⟩ := shB_ok (a := a) (4 - (a + 1)) (a + 1) A hW
    obtain ⟨τ', t1, t2, t3⟩ := ih (a + 1) u _ τ1 (by omega) (by omega) n1 p3
    have h4a : 4 - a = (4 - (a + 1)) + 1 := by omega
    rw [LX5_oneTick_12, e2, if_neg (nI_ge (by omega) (by omega)), nI_1, p1, Option.bind_some, if_pos ⟨Nat.le_refl _, p2.2.1⟩, t1, Option.bind_some, if_pos t2.2.1, Option.bind_some, if_pos t2.2.1, h4a, shAA]
    exact ⟨τ', rfl, p2.tr t2, t3⟩
theorem tickM {A : Ab} {ns nb T : Nat} {g : Int32} {τ : Sg} (hM : Mx A ns nb g τ) (hW : Wf A ns nb T) (hT : T ≤ 516) (ht : A 0 0 6 < 500 * T) : ∃ τ' : Sg, FX5_oneTick ns nb τ = some τ' ∧ okM g τ τ' ∧ Mx (tickA ns nb A) ns nb g τ' := by
  have h4 := hW.1
  have c1 : τ.1 20 0 1 = nI (A 0 0 6) := hM.2.2.2.2.2.2.2.2.2.1
  obtain ⟨n1, n2, n3⟩ := tick_in (ns := ns) hW ht
  have k0 : okM g τ (sI τ 20 0 1 (nI (A 0 0 6 + 1))) := okM_I (by decide) (by decide) (Or.inr (by decide))
  obtain ⟨τ1, p1, p2, p3⟩ := shAM (ns := ns) (T := T) (g := g) ns 0 4100 (aU A 0 0 6 (A 0 0 6 + 1)) (sI τ 20 0 1 (nI (A 0 0 6 + 1))) (by omega) (by omega) (hW.tk (by omega) (by omega)) hM.tk
  obtain ⟨τ', t1, t2, t3⟩ := springsM (ns := ns) (nb := nb) (g := g) hT ns 0 4100 _ τ1 (by omega) (by omega) n1 n2 p3
  refine ⟨τ', ?_, (k0.tr p2).tr t2, t3⟩
  unfold FX5_oneTick
  rw [c1, nI_1, show LX5_oneTick_12 ns nb 4100 0 (sI τ 20 0 1 (nI (A 0 0 6 + 1))) = _ from p1, Option.bind_some, if_pos ⟨k0.2.1, p2.2.1⟩, show LX5_oneTick_107 ns nb 4100 0 τ1 = _ from t1, Option.bind_some, if_pos ⟨Nat.le_refl _, t2.2.1⟩, Option.bind_some, if_pos (Nat.le_refl _), Option.bind_some, if_pos t2.2.1, Option.bind_some, if_pos ((k0.tr p2).tr t2).2.1]
