/-! A TICK, IN THE COMPONENT -/
theorem Cm.sd {A : Ab} {ns nb : Nat} {σ : Sg} (h : Cm A ns nb σ) {b v : Nat} : Cm (aU A 6 b 12 v) ns nb (sI σ 6 b 12 (nI v)) := by
  obtain ⟨h1, h2, h3, h4, h5, h6, h7⟩ := h
  refine ⟨h1, fun j hj => ?_, h3, h4, fun j hj c hc => ?_, h6, h7⟩
  · have a := h2 j hj
    by_cases q : j = b
    · subst q
      obtain ⟨a0, a1, a2, a3, a4, a8, a9, a10, a11, a12⟩ := a
      simp [sI_eq, sI_2, aU_eq, a0, a1, a2, a3, a4, a8, a9, a10, a11]
    · simpa [sI_eq, sI_2, aU_eq, q] using a
  · have e2 : aU A 6 b 12 v 6 j 2 = A 6 j 2 := aU_f (by decide)
    rw [e2]
    exact h5 j hj c hc
theorem Cm.gn {A : Ab} {ns nb : Nat} {σ : Sg} (h : Cm A ns nb σ) {b v : Nat} : Cm (aU A 6 b 11 v) ns nb (sL σ 6 b 11 (lN v)) := by
  obtain ⟨h1, h2, h3, h4, h5, h6, h7⟩ := h
  refine ⟨h1, fun j hj => ?_, h3, h4, fun j hj c hc => ?_, h6, h7⟩
  · have a := h2 j hj
    by_cases q : j = b
    · subst q
      obtain ⟨a0, a1, a2, a3, a4, a8, a9, a10, a11, a12⟩ := a
      simp [sL_eq, sL_1, aU_eq, a0, a1, a2, a3, a4, a8, a9, a10, a12]
    · simpa [sL_eq, sL_1, aU_eq, q] using a
  · have e2 : aU A 6 b 11 v 6 j 2 = A 6 j 2 := aU_f (by decide)
    rw [e2]
    exact h5 j hj c hc
theorem Cm.shf {A : Ab} {ns nb : Nat} {σ : Sg} (h : Cm A ns nb σ) {i v : Nat} : Cm (aU A 5 i 2 v) ns nb (sL σ 5 i 2 (lN v)) := by
  obtain ⟨h1, h2, h3, h4, h5, h6, h7⟩ := h
  refine ⟨fun j hj => ?_, h2, h3, h4, h5, h6, h7⟩
  have a := h1 j hj
  by_cases q : j = i
  · subst q
    obtain ⟨a0, a1, a2, a3, a4⟩ := a
    simp [sL_eq, sL_1, aU_eq, a0, a1, a3, a4]
  · simpa [sL_eq, sL_1, aU_eq, q] using a
theorem Cm.tk {A : Ab} {ns nb : Nat} {σ : Sg} (h : Cm A ns nb σ) {v : Nat} : Cm (aU A 0 0 6 v) ns nb (sI σ 0 0 6 (nI v)) := by
  obtain ⟨h1, h2, h3, h4, h5, h6, ⟨p3, p4, p5, p6⟩⟩ := h
  exact ⟨h1, h2, h3, h4, h5, h6, p3, p4, p5, rfl⟩
/-- how the component's state goes on: what was remembered stays -/
def okC (σ τ : Sg) : Prop := frC σ τ ∧ (∀ i, τ.1 5 i 5 = σ.1 5 i 5 ∧ τ.2 5 i 6 = σ.2 5 i 6 ∧ τ.1 5 i 7 = σ.1 5 i 7) ∧ (∀ b, τ.2 6 b 13 = σ.2 6 b 13 ∧ τ.1 6 b 14 = σ.1 6 b 14) ∧ τ.1 3 0 3 = σ.1 3 0 3 ∧ τ.1 3 0 4 = σ.1 3 0 4
theorem okC.rf {σ : Sg} : okC σ σ := ⟨frC.rf, fun _ => ⟨rfl, rfl, rfl⟩, fun _ => ⟨rfl, rfl⟩, rfl, rfl⟩
theorem okC.tr {a b c : Sg} (h : okC a b) (h2 : okC b c) : okC a c := ⟨h.1.tr h2.1, fun i => ⟨(h2.2.1 i).1.trans (h.2.1 i).1, (h2.2.1 i).2.1.trans (h.2.1 i).2.1, (h2.2.1 i).2.2.trans (h.2.1 i).2.2⟩, fun i => ⟨(h2.2.2.1 i).1.trans (h.2.2.1 i).1, (h2.2.2.1 i).2.trans (h.2.2.1 i).2⟩, h2.2.2.2.1.trans h.2.2.2.1, h2.2.2.2.2.trans h.2.2.2.2⟩
theorem okC_I {σ : Sg} {k i f : Nat} {v : Int32} (h : k < 13 ∧ ¬ (k = 5 ∧ 5 ≤ f) ∧ ¬ (k = 6 ∧ 13 ≤ f) ∧ ¬ (k = 3 ∧ 3 ≤ f)) : okC σ (sI σ k i f v) := ⟨frC_I h.1, fun i => ⟨if_neg (by omega), rfl, if_neg (by omega)⟩, fun b => ⟨rfl, if_neg (by omega)⟩, if_neg (by omega), if_neg (by omega)⟩
theorem okC_L {σ : Sg} {k i f : Nat} {v : Int64} (h : k < 13 ∧ ¬ (k = 5 ∧ 5 ≤ f) ∧ ¬ (k = 6 ∧ 13 ≤ f) ∧ ¬ (k = 3 ∧ 3 ≤ f)) : okC σ (sL σ k i f v) := ⟨frC_L h.1, fun i => ⟨rfl, if_neg (by omega), rfl⟩, fun b => ⟨if_neg (by omega), rfl⟩, rfl, rfl⟩
theorem putF {ns nb : Nat} {σ σ' : Sg} {a v : Int32} (h : FX4_put ns nb σ 4 0 a v = some σ') : okC σ σ' := by
  unfold FX4_put at h
  split at h
  · cases h; exact okC.rf
  · split at h
    · cases h; exact okC.rf
    · split at h
      · cases h
      · cases h
        exact okC_I (by omega)
theorem hearF {ns nb : Nat} {σ σ' : Sg} {a b c d : Int32} (h : FX2_hear ns nb σ a b c d = some σ') : okC σ σ' := by
  unfold FX2_hear at h
  have h0 : okC σ (sI σ 3 0 2 ((σ.1 3 0 2) + 1)) := okC_I (by decide)
  split at h
  · cases h; exact h0
  · obtain ⟨s2, e2, h⟩ := Option.bind_eq_some_iff.mp h
    obtain ⟨s3, e3, h⟩ := Option.bind_eq_some_iff.mp h
    obtain ⟨s4, e4, h⟩ := Option.bind_eq_some_iff.mp h
    obtain ⟨s5, e5, h⟩ := Option.bind_eq_some_iff.mp h
    cases h
    exact ((((h0.tr (putF e2)).tr (putF e3)).tr (putF e4)).tr (putF e5)).tr (okC_I (by decide))
theorem hasPinC {ns nb b x l v : Nat} {σ : Sg} (e7 : σ.1 7 b x = nI v) (hv : v < 64) (hx : x < 96) (hl : l < 6) : FX0_hasPin ns nb σ b (nI x) (nI l) = some (nI (v / 2 ^ l % 2), σ) := by
  have eb := pn_bit ⟨v, hv⟩ ⟨l, hl⟩
  dsimp only at eb
  unfold FX0_hasPin
  rw [at4 (k := 7) (N := 96) rfl (by decide) (by omega), Option.bind_some]
  dsimp only
  rw [e7, eb]
  rcases (show v / 2 ^ l % 2 = 0 ∨ v / 2 ^ l % 2 = 1 by omega) with q | q <;> rw [q]
  · rw [if_neg (show ¬ nI 0 = 1 by decide)]; rfl
  · rw [if_pos (show nI 1 = 1 from rfl)]; rfl
theorem noteC {A : Ab} {ns nb T b l w : Nat} {σ : Sg} (hC : Cm (aU A 6 b 12 w) ns nb σ) (hW : Wf A ns nb T) (hb : b < nb) (hl : l < 6) : ∃ σ1 σ2 : Sg, FX3_payForNote ns nb σ (A 6 b 0) = some σ1 ∧ FX4_at ns nb σ1 8 b (nI l) = some (nI (A 8 b l), σ1) ∧ FX2_hear ns nb σ1 (σ1.1 0 0 6) (nI b) (nI l) (nI (A 8 b l)) = some σ2 ∧ okC σ σ2 ∧ Cm (aU (noteA A b l) 6 b 12 w) ns nb σ2 := by
  have w0 := (hW.2.2.2.2.1 b hb).1
  have hh : aU A 6 b 12 w 5 (A 6 b 0) 1 ≤ 200000 := (hW.2.2.2.1.1 _ w0).2.2.1
  have h250 : A 3 0 1 ≤ 250 := hW.2.2.2.2.2.2.2.2.1.1
  obtain ⟨p1, p2⟩ := payC hC w0 hh
  have e8 := p2.2.2.2.1 b hb l hl
  have e6 := p2.2.2.2.2.2.2.2.2.2
  obtain ⟨σ2, q1, q2, q3⟩ := hearC (b := b) (l := l) p2 h250
  refine ⟨_, σ2, p1, ?_, ?_, (okC_I (by decide)).tr (hearF q1), ?_⟩
  · rw [at4 (k := 8) (N := 6) rfl (by decide) hl]
    exact congrArg (fun z => some (z, _)) e8
  · rw [e6]
    exact q1
  · have e : aU (noteA A b l) 6 b 12 w = hrA (aU (aU A 6 b 12 w) 5 (A 6 b 0) 1 (A 5 (A 6 b 0) 1 - min 10 (A 5 (A 6 b 0) 1))) b l := by
      unfold noteA payA
      rw [hrA_U (Or.inr rfl), aU_tw, aU_sw (by omega)]
    rw [e]
    exact q3
theorem lev0 (b : Nat) : ∀ (m l : Nat) (A : Ab), levA b 0 m l A = A := by
  intro m
  induction m with
  | zero => intro l A; rfl
  | succ m ih =>
    intro l A
    rw [levA, Nat.zero_div, if_neg (by decide)]
    exact ih (l + 1) A
theorem levC {ns nb T b x w v : Nat} (hb : b < nb) (hx : x < 96) (hv : v < 64) : ∀ (m l c fuel s : Nat) (A : Ab) (σ : Sg), l + m = 6 → m < fuel → A 6 b 0 = s → A 7 b x = v → Wf A ns nb T → Cm (aU A 6 b 12 w) ns nb σ → ∃ σ' : Sg, LX4_soundPlace_6 ns nb (nI b) b s (nI x) fuel (nI c) (nI l) σ = some (nI (c + (levA b v m l A 3 0 2 - A 3 0 2)), σ') ∧ okC σ σ' ∧ Cm (aU (levA b v m l A) 6 b 12 w) ns nb σ' := by
  intro m
  induction m with
  | zero =>
    intro l c fuel s A σ hl hf hs h7 hW hC
    obtain ⟨u, rfl⟩ : ∃ u, fuel = u + 1 := ⟨fuel - 1, by omega⟩
    have : l = 6 := by omega
    subst this
    refine ⟨σ, ?_, okC.rf, hC⟩
    rw [LX4_soundPlace_6, if_pos (show (6 : Int32) ≤ nI 6 by decide), levA, Nat.sub_self, Nat.add_zero]
  | succ m ih =>
    intro l c fuel s A σ hl hf hs h7 hW hC
    obtain ⟨u, rfl⟩ : ∃ u, fuel = u + 1 := ⟨fuel - 1, by omega⟩
    have c7 : σ.1 7 b x = nI v := by
      have := hC.2.2.1 b hb x hx
      rw [aU_k (by decide), h7] at this
      exact this
    rw [LX4_soundPlace_6, if_neg (show ¬ ((6 : Int32) ≤ nI l) from nI_ge (b := 6) (by omega) (by omega)), hasPinC c7 hv hx (by omega), Option.bind_some, levA]
    dsimp only
    by_cases q : v / 2 ^ l % 2 = 1
    · obtain ⟨n1, n2, n3, n4⟩ := note_ok (l := l) hW hb
      obtain ⟨σ1, σ2, p1, p2, p3, p4, p5⟩ := noteC hC hW hb (l := l) (by omega)
      obtain ⟨σ', t1, t2, t3⟩ := ih (l + 1) (c + 1) u s (noteA A b l) σ2 (by omega) (by omega) (by rw [n2.1 6 b 0 (by decide) (by decide) (by omega) (by omega), hs]) (by rw [n2.1 7 b x (by decide) (by decide) (by omega) (by omega), h7]) n1 p5
      have hle := (lev_ok (v := v) hb m (l + 1) _ n1).2.1.2.1
      rw [hs] at p1
      rw [if_pos q, q, if_neg (show ¬ nI 1 = 0 by decide), p1, Option.bind_some, p2, Option.bind_some]
      dsimp only
      rw [p3, Option.bind_some, nI_1, nI_1, t1]
      refine ⟨σ', ?_, p4.tr t2, t3⟩
      congr 2
      congr 1
      omega
    · have q0 : v / 2 ^ l % 2 = 0 := by omega
      obtain ⟨σ', t1, t2, t3⟩ := ih (l + 1) c u s A σ (by omega) (by omega) hs h7 hW hC
      rw [if_neg q, q0, if_pos (show nI 0 = 0 from rfl), nI_1, t1]
      exact ⟨σ', rfl, t2, t3⟩
theorem soundC {A : Ab} {ns nb T b x : Nat} {σ : Sg} (hC : Cm A ns nb σ) (hW : Wf A ns nb T) (hb : b < nb) (hx : x < 96) : ∃ σ' : Sg, FX4_soundPlace ns nb σ (nI b) b (A 6 b 0) (nI x) = some (nI (levA b (A 7 b x) 6 0 A 3 0 2 - A 3 0 2), σ') ∧ okC σ σ' ∧ Cm (levA b (A 7 b x) 6 0 A) ns nb σ' := by
  have hC0 : Cm (aU A 6 b 12 (A 6 b 12)) ns nb σ := by
    rw [aU_id rfl]
    exact hC
  obtain ⟨σ1, t1, t2, t3⟩ := levC (ns := ns) (T := T) (v := A 7 b x) hb hx (hW.2.2.2.2.2.1.1 b x) 6 0 0 4100 (A 6 b 0) A σ (by omega) (by omega) rfl rfl hW hC0
  obtain ⟨-, hk, h12⟩ := lev_ok (v := A 7 b x) hb 6 0 A hW
  have hle := hk.2.1
  have e12 : σ1.1 6 b 12 = nI (A 6 b 12) := by
    have := (t3.2.1 b hb).2.2.2.2.2.2.2.2.2
    rw [aU_same] at this
    exact this
  have e : σ1.1 6 b 12 + nI (0 + (levA b (A 7 b x) 6 0 A 3 0 2 - A 3 0 2)) = nI (levA b (A 7 b x) 6 0 A 6 b 12) := by
    rw [e12, nI_add]
    congr 1
    omega
  have hC1 := t3.sd (b := b) (v := levA b (A 7 b x) 6 0 A 6 b 12)
  rw [aU_tw, aU_id rfl] at hC1
  refine ⟨sI σ1 6 b 12 (nI (levA b (A 7 b x) 6 0 A 6 b 12)), ?_, t2.tr (okC_I (by decide)), hC1⟩
  unfold FX4_soundPlace
  rw [show LX4_soundPlace_6 ns nb (nI b) b (A 6 b 0) (nI x) 4100 0 0 σ = _ from t1, Option.bind_some]
  dsimp only
  rw [e, Nat.zero_add]
theorem cmp0 : lg_cmp (lN 0) 0 ≤ 0 := by decide
theorem cmpP {n : Nat} (h0 : 0 < n) (h : n < 2 ^ 31) : ¬ lg_cmp (lN n) 0 ≤ 0 := by
  have hp : lN n > 0 := (lN_lt (a := 0) (by decide) h).mpr h0
  unfold lg_cmp
  rw [if_pos hp]
  decide
theorem plWhen {A : Ab} {ns nb T b y : Nat} {σ : Sg} (hC : Cm A ns nb σ) (h : Wf A ns nb T) (hb : b < nb) (hy : y < 2 ^ 31) : FX0_placeWhenGone ns nb σ b (lN y) = some (nI (y % A 6 b 2), σ) := by
  obtain ⟨b0, b1, b2, b3, -⟩ := h.2.2.2.2.1 b hb
  have c2 := (hC.2.1 b hb).2.2.1
  unfold FX0_placeWhenGone
  rw [c2, nI_l (by omega), if_neg (nI_nle (by omega) (by omega)), if_neg (lN_ne0 (by omega) (by omega)), pk_lRem (by omega) (by omega) (by omega), lN_i]
theorem barC {ns nb T b hi : Nat} (hb : b < nb) (hh : hi < 2 ^ 31) : ∀ (m c fuel s : Nat) (A : Ab) (σ : Sg), m < fuel → m ≤ hi → A 6 b 0 = s → A 6 b 11 = hi → Wf A ns nb T → Cm A ns nb σ → ∃ σ' : Sg, LX4_goBarrel_38 ns nb (nI b) b s fuel (nI c) (lN m) σ = some (nI (c + (barA b hi m A 3 0 2 - A 3 0 2)), σ') ∧ okC σ σ' ∧ Cm (barA b hi m A) ns nb σ' := by
  intro m
  induction m with
  | zero =>
    intro c fuel s A σ hf hm hs h11 hW hC
    obtain ⟨u, rfl⟩ : ∃ u, fuel = u + 1 := ⟨fuel - 1, by omega⟩
    refine ⟨σ, ?_, okC.rf, hC⟩
    rw [LX4_goBarrel_38, if_pos cmp0, barA, Nat.sub_self, Nat.add_zero]
  | succ m ih =>
    intro c fuel s A σ hf hm hs h11 hW hC
    obtain ⟨u, rfl⟩ : ∃ u, fuel = u + 1 := ⟨fuel - 1, by omega⟩
    obtain ⟨b0, b1, b2, b3, -⟩ := hW.2.2.2.2.1 b hb
    have c11 : σ.2 6 b 11 = lN hi := by rw [← h11]; exact (hC.2.1 b hb).2.2.2.2.2.2.2.2.1
    have e1 : lN hi - lN (m + 1) + 1 = lN (hi - m) := by
      rw [lN_sub hm, lN_1]
      congr 1
      omega
    have hx : (hi - m) % A 6 b 2 < 96 := Nat.lt_of_lt_of_le (Nat.mod_lt _ (by omega)) b3
    have c7 : σ.1 7 b ((hi - m) % A 6 b 2) = nI (A 7 b ((hi - m) % A 6 b 2)) := hC.2.2.1 b hb _ hx
    have hv := hW.2.2.2.2.2.1.1 b ((hi - m) % A 6 b 2)
    have e2 : lN (m + 1) - 1 = lN m := by rw [show (1 : Int64) = lN 1 from rfl, lN_sub (by omega), Nat.add_sub_cancel]
    rw [LX4_goBarrel_38, if_neg (cmpP (by omega) (by omega)), c11, e1, plWhen hC hW hb (by omega), Option.bind_some]
    dsimp only
    rw [at4 (k := 7) (N := 96) rfl (by decide) hx, Option.bind_some]
    dsimp only
    rw [c7, barA, e2]
    by_cases hz : A 7 b ((hi - m) % A 6 b 2) = 0
    · rw [hz, if_pos (show nI 0 = 0 from rfl), lev0]
      exact ih c u s A σ (by omega) (by omega) hs h11 hW hC
    · rw [if_neg (nI_ne0 (by omega) (by omega))]
      obtain ⟨n1, n2, -⟩ := lev_ok (v := A 7 b ((hi - m) % A 6 b 2)) hb 6 0 A hW
      obtain ⟨σ1, p1, p2, p3⟩ := soundC hC hW hb hx
      rw [hs] at p1
      rw [p1, Option.bind_some]
      dsimp only
      obtain ⟨σ', t1, t2, t3⟩ := ih (c + (levA b (A 7 b ((hi - m) % A 6 b 2)) 6 0 A 3 0 2 - A 3 0 2)) u s _ σ1 (by omega) (by omega) (by rw [n2.1 6 b 0 (by decide) (by decide) (by omega) (by omega), hs]) (by rw [n2.1 6 b 11 (by decide) (by decide) (by omega) (by omega), h11]) n1 p3
      have hle := (bar_ok (hi := hi) hb m _ n1).2.2.1
      have hle2 := n2.2.1
      rw [nI_add, t1]
      refine ⟨σ', ?_, p2.tr t2, t3⟩
      congr 2
      congr 1
      omega
theorem mnL_lN {a b : Nat} (ha : a < 2 ^ 31) (hb : b < 2 ^ 31) : mnL (lN a) (lN b) = lN (min a b) := by
  unfold mnL
  by_cases h : b < a
  · rw [if_pos ((lN_lt hb ha).mpr h), Nat.min_eq_right (by omega)]
  · rw [if_neg (fun q => h ((lN_lt hb ha).mp q)), Nat.min_eq_left (by omega)]
theorem come_ge {A : Ab} {ns nb T b : Nat} (hW : Wf A ns nb T) (hb : b < nb) : A 6 b 11 ≤ comeA A b := (hW.2.2.2.2.1 b hb).2.2.2.2.2.2.2.2.2.2.2
theorem come_bd {A : Ab} {ns nb T b : Nat} (hW : Wf A ns nb T) (hT : T ≤ 516) (hb : b < nb) : comeA A b < 1000000000 ∧ (A 5 (A 6 b 0) 2 - A 6 b 10) * A 6 b 3 * A 6 b 2 ≤ 104000000 * 12 * 96 ∧ A 6 b 10 ≤ A 5 (A 6 b 0) 2 ∧ A 5 (A 6 b 0) 2 ≤ 104000000 := by
  obtain ⟨-, g2, g3⟩ := goneB hW hT hb
  obtain ⟨b0, b1, b2, b3, b4, b5, b6, b7, b8, b9, b10, b11⟩ := hW.2.2.2.2.1 b hb
  have m1 : (A 5 (A 6 b 0) 2 - A 6 b 10) * A 6 b 3 * A 6 b 2 ≤ 104000000 * 12 * 96 := Nat.mul_le_mul (Nat.mul_le_mul (by omega) b5) b3
  have m2 : (A 5 (A 6 b 0) 2 - A 6 b 10) * A 6 b 3 * A 6 b 2 / (1000 * A 6 b 4) ≤ 104000000 * 12 * 96 / 1000 := Nat.div_le_div m1 (by omega) (by decide)
  unfold comeA
  exact ⟨by omega, m1, b10, g3⟩
theorem goneW {A : Ab} {ns nb T b : Nat} {σ : Sg} (hC : Cm A ns nb σ) (hW : Wf A ns nb T) (hT : T ≤ 516) (hb : b < nb) : FX0_goneWhen ns nb σ b (lN (A 5 (A 6 b 0) 2)) = some (lN (comeA A b), σ) := by
  obtain ⟨d1, d2, d3, d4⟩ := come_bd hW hT hb
  obtain ⟨b0, b1, b2, b3, b4, b5, b6, b7, b8, b9, b10, b11⟩ := hW.2.2.2.2.1 b hb
  obtain ⟨-, -, c2, c3, c4, -, -, c10, -, -⟩ := hC.2.1 b hb
  have e4 : 1000 * (nI (A 6 b 4)).toInt64 = lN (1000 * A 6 b 4) := by
    rw [nI_l (by omega), show (1000 : Int64) = lN 1000 from rfl, lN_mul]
  unfold FX0_goneWhen
  rw [c2, c3, c4, c10, e4, if_neg (cmpP (by omega) (by omega)), if_neg (lN_ne0 (by omega) (by omega)), nI_l (by omega), nI_l (by omega), lN_sub d3, lN_mul, lN_mul, pk_lDiv (by omega) (by omega) (by omega)]
  rfl
theorem turnC {A : Ab} {ns nb T b : Nat} {σ : Sg} (hC : Cm A ns nb σ) (hW : Wf A ns nb T) (hT : T ≤ 516) (hb : b < nb) : ∃ σ' : Sg, FX4_goBarrel ns nb σ (nI b) b (A 6 b 0) = some (nI (turnA A b 3 0 2 - A 3 0 2), σ') ∧ okC σ σ' ∧ Cm (turnA A b) ns nb σ' := by
  obtain ⟨d1, d2, d3, d4⟩ := come_bd hW hT hb
  have hge := come_ge hW hb
  obtain ⟨b0, b1, b2, b3, -⟩ := hW.2.2.2.2.1 b hb
  obtain ⟨-, -, c2, -, -, -, -, -, c11, -⟩ := hC.2.1 b hb
  have cs : σ.2 5 (A 6 b 0) 2 = lN (A 5 (A 6 b 0) 2) := (hC.1 _ b0).2.2.1
  obtain ⟨σ', t1, t2, t3⟩ := barC (ns := ns) (T := T) hb (hi := comeA A b) (by omega) (min (comeA A b - A 6 b 11) (A 6 b 2)) 0 4100 (A 6 b 0) (aU A 6 b 11 (comeA A b)) (sL σ 6 b 11 (lN (comeA A b))) (by omega) (by omega) (aU_f (by decide)) (aU_same _ _ _ _ _) (hW.gn (Nat.le_refl _)) hC.gn
  refine ⟨σ', ?_, (okC_L (by decide)).tr t2, t3⟩
  unfold FX4_goBarrel
  rw [cs, goneW hC hW hT hb, Option.bind_some]
  dsimp only
  rw [sL_eq, if_pos ⟨rfl, rfl, rfl⟩, c11, sL_1, c2, nI_l (by omega), lN_sub hge, mnL_lN (by omega) (by omega), show LX4_goBarrel_38 ns nb (nI b) b (A 6 b 0) 4100 0 (lN (min (comeA A b - A 6 b 11) (A 6 b 2))) (sL σ 6 b 11 (lN (comeA A b))) = _ from t1, Option.bind_some, Nat.zero_add]
  rfl
theorem birdsC {ns nb T s : Nat} (hs : s < 4) (hT : T ≤ 516) (h8 : nb ≤ 8) : ∀ (m b c fuel : Nat) (A : Ab) (σ : Sg), b + m = 8 → m < fuel → Wf A ns nb T → Cm A ns nb σ → ∃ σ' : Sg, LX4_goShaft_39 ns nb (nI s) s fuel (nI c) (nI b) σ = some (nI (c + (birdsA s (nb - b) b A 3 0 2 - A 3 0 2)), σ') ∧ okC σ σ' ∧ Cm (birdsA s (nb - b) b A) ns nb σ' := by
  intro m
  induction m with
  | zero =>
    intro b c fuel A σ hb hf hW hC
    obtain ⟨u, rfl⟩ : ∃ u, fuel = u + 1 := ⟨fuel - 1, by omega⟩
    have : b = 8 := by omega
    subst this
    refine ⟨σ, ?_, okC.rf, ?_⟩
    · rw [LX4_goShaft_39, if_pos (show (8 : Int32) ≤ nI 8 by decide), show nb - 8 = 0 by omega, birdsA, Nat.sub_self, Nat.add_zero]
    · rw [show nb - 8 = 0 by omega, birdsA]
      exact hC
  | succ m ih =>
    intro b c fuel A σ hb hf hW hC
    obtain ⟨u, rfl⟩ : ∃ u, fuel = u + 1 := ⟨fuel - 1, by omega⟩
    rw [LX4_goShaft_39, if_neg (show ¬ ((8 : Int32) ≤ nI b) from nI_ge (b := 8) (by omega) (by omega)), if_neg (nI_in (by omega) (by omega)), nI_clamp (by omega), r1]
    by_cases hn : b < nb
    · rw [iO_in hn, oc_s, if_pos hn, drivC hC hW hn hs, Option.bind_some, show nb - b = (nb - (b + 1)) + 1 by omega, birdsA]
      dsimp only
      by_cases hd : drA A s b = true
      · have h0 : A 6 b 0 = s := by
          unfold drA at hd
          have := of_decide_eq_true hd
          exact this.2
        obtain ⟨n1, n2⟩ := turn_ok hW hn
        obtain ⟨σ1, p1, p2, p3⟩ := turnC hC hW hT hn
        rw [h0] at p1
        obtain ⟨σ', t1, t2, t3⟩ := ih (b + 1) (c + (turnA A b 3 0 2 - A 3 0 2)) u _ σ1 (by omega) (by omega) n1 p3
        have hle := (birds_ok (s := s) (nb - (b + 1)) (b + 1) _ (by omega) n1).2.2.1
        have hle2 := n2.2.1
        rw [if_pos hd, if_neg n10, p1, Option.bind_some]
        dsimp only
        rw [nI_add, t1, if_pos hd]
        refine ⟨σ', ?_, p2.tr t2, t3⟩
        congr 2
        congr 1
        omega
      · rw [if_neg hd, if_pos rfl, if_neg hd]
        exact ih (b + 1) c u A σ (by omega) (by omega) hW hC
    · rw [iO_out hn, oc_n]
      have i := ih (b + 1) c u A σ (by omega) (by omega) hW hC
      rw [show nb - (b + 1) = nb - b by omega] at i
      have e : ∀ b', nb - b = 0 → birdsA s (nb - b) b' A = A := fun b' h => by rw [h, birdsA]
      rw [e _ (by omega)] at i ⊢
      exact i
