/-! THE CALLS OF THE LAW: what each answers, and what it leaves -/
theorem addSpringC {A : Ab} {ns nb T : Nat} {σ : Sg} (hC : Cm A ns nb σ) (hW : Wf A ns nb T) (h4 : ns < 4) {j : Nat} (j1 : 1 ≤ j) (j2 : j ≤ 50) : ∃ σ1 : Sg, FX4_addSpring ns nb σ (nI j) = some (.inr (nI ns), σ1) ∧ Cm (aU A 5 ns 0 j) (ns + 1) nb σ1 ∧ Wf (aU A 5 ns 0 j) (ns + 1) nb T := by
  have q := in_rng (x := 1) (y := 50) j1 j2 (by decide)
  have e : σ.1 0 0 3 = nI ns := hC.2.2.2.2.2.2.1
  have e' : (sgS σ ns (nI j)).1 0 0 3 = nI ns := e
  refine ⟨sI (sgS σ ns (nI j)) 0 0 3 (nI (ns + 1)), ?_, hC.addS (hW.2.2.2.1.2 ns (Nat.le_refl _)), hW.addS (by omega) j1 j2⟩
  unfold FX4_addSpring
  rw [in4y (show ¬ (nI j < 1 ∨ 50 < nI j) from q), Option.bind_some, if_neg n10]
  dsimp only
  rw [e, e', if_neg (nI_pos (by omega)), if_pos (show nI ns < (4 : Int32) from nI_lt (b := 4) (by omega) (by decide)), if_neg (nI_in (by omega) (by decide)), nI_clamp (by omega), if_pos rfl, nI_1]
theorem windC {A : Ab} {ns nb T : Nat} {σ : Sg} (hC : Cm A ns nb σ) (hW : Wf A ns nb T) {i j : Nat} (hi : i < ns) (j1 : 1 ≤ j) (j2 : j ≤ 200000) : ∃ σ1 : Sg, FX4_wind ns nb σ (nI i) (nI j) = some (.inr (nI (min (A 5 i 1 + j) 200000)), σ1) ∧ Cm (aU A 5 i 1 (min (A 5 i 1 + j) 200000)) ns nb σ1 ∧ Wf (aU A 5 i 1 (min (A 5 i 1 + j) 200000)) ns nb T := by
  have h4 : ns ≤ 4 := hW.1
  have q := in_rng (x := 1) (y := 200000) j1 j2 (by decide)
  obtain ⟨b1, b2, b3, b4, b5⟩ := hW.2.2.2.1.1 i hi
  obtain ⟨c0, c1, c2, c3, c4⟩ := hC.1 i hi
  have ev : mnI (σ.1 5 i 1 + nI j) 200000 = nI (min (A 5 i 1 + j) 200000) := by
    rw [c1, nI_add]; exact mn_nI (by omega) (by decide)
  refine ⟨sI σ 5 i 1 (nI (min (A 5 i 1 + j) 200000)), ?_, hC.sp (Or.inl rfl), hW.held hi (by omega)⟩
  unfold FX4_wind
  rw [spAt_in h4 hi, Option.bind_some, oc_s, if_pos hi, in4y (show ¬ (nI j < 1 ∨ 200000 < nI j) from q), Option.bind_some, if_neg n10, ev, sI_eq, if_pos ⟨rfl, rfl, rfl⟩]
theorem coupleC {A : Ab} {ns nb T : Nat} {σ : Sg} (hC : Cm A ns nb σ) (hW : Wf A ns nb T) {i j : Nat} (hi : i < ns) (hj : j < ns) (hij : i ≠ j) {a3 : Int32} (h3 : a3 = 0 ∨ a3 = 1) : ∃ (σ1 : Sg) (u : Nat), FX4_couple ns nb σ (nI i) (nI j) a3 = some (.inr (nI (prA (aU A 23 (min i j) (max i j) u))), σ1) ∧ u ≤ 1 ∧ Cm (aU A 23 (min i j) (max i j) u) ns nb σ1 ∧ Wf (aU A 23 (min i j) (max i j) u) ns nb T := by
  have h4 : ns ≤ 4 := hW.1
  have hwc : wCp A := hW.2.2.2.2.2.2.2.2.2
  have hm : min i j < max i j := by omega
  have hx : max i j < 4 := by omega
  obtain ⟨m, em⟩ : ∃ m, m = min i j := ⟨_, rfl⟩
  obtain ⟨x, ex⟩ : ∃ x, x = max i j := ⟨_, rfl⟩
  rw [← em, ← ex] at hm ⊢
  rw [← ex] at hx
  have e5 : σ.1 0 0 5 = nI (cpA A) := hC.2.2.2.2.2.2.2.2.1
  have epb : FX4_pairBit ns nb σ (nI i) (nI j) = some ((1 : Int32) <<< ((nI m * 4 + nI x) &&& 31), σ) := by
    unfold FX4_pairBit
    rw [mn_nI (by omega) (by omega), mx_nI (by omega) (by omega), ← em, ← ex]
  have hne : ¬ nI i = nI j := fun q => hij ((nI_eq (by omega) (by omega)).mp q)
  rcases h3 with rfl | rfl
  · refine ⟨sI σ 0 0 5 (nI (cpA (aU A 23 m x 0))), 0, ?_, by decide, hC.cp, hW.cp (by decide)⟩
    unfold FX4_couple
    rw [spAt_in h4 hi, Option.bind_some, oc_s, if_pos hi, spAt_in h4 hj, Option.bind_some, oc_s, if_pos hj, if_neg hne, epb, Option.bind_some]
    dsimp only
    rw [if_pos rfl, e5, andA hwc hm hx, bc_eq, Option.bind_some, sI_eq, if_pos ⟨rfl, rfl, rfl⟩, bcA (hW.cp (v := 0) (by decide)).2.2.2.2.2.2.2.2.2]
  · refine ⟨sI σ 0 0 5 (nI (cpA (aU A 23 m x 1))), 1, ?_, by decide, hC.cp, hW.cp (by decide)⟩
    unfold FX4_couple
    rw [spAt_in h4 hi, Option.bind_some, oc_s, if_pos hi, spAt_in h4 hj, Option.bind_some, oc_s, if_pos hj, if_neg hne, epb, Option.bind_some]
    dsimp only
    rw [if_neg n10, e5, orA hwc hm hx, bc_eq, Option.bind_some, sI_eq, if_pos ⟨rfl, rfl, rfl⟩, bcA (hW.cp (v := 1) (by decide)).2.2.2.2.2.2.2.2.2]
theorem addBirdC {A : Ab} {ns nb T : Nat} {σ : Sg} (hC : Cm A ns nb σ) (hW : Wf A ns nb T) (h8 : nb < 8) {s w n p q : Nat} (hs : s < ns) (w2 : w ≤ 20) (n1 : 8 ≤ n) (n2 : n ≤ 96) (p1 : 1 ≤ p) (p2 : p ≤ 12) (g1 : 1 ≤ q) (g2 : q ≤ 12) : ∃ σ1 : Sg, FX4_addBird ns nb σ (nI s) (nI w) (nI n) (nI p) (nI q) = some (.inr (nI nb), σ1) ∧ Cm (nbA A nb s w n p q) ns (nb + 1) σ1 ∧ Wf (nbA A nb s w n p q) ns (nb + 1) T := by
  have h4 : ns ≤ 4 := hW.1
  have q2 := in_rng (x := 0) (y := 20) (j := w) (by omega) w2 (by decide)
  have q3 := in_rng (x := 8) (y := 96) n1 n2 (by decide)
  have q4 := in_rng (x := 1) (y := 12) p1 p2 (by decide)
  have q5 := in_rng (x := 1) (y := 12) g1 g2 (by decide)
  have e4 : σ.1 0 0 4 = nI nb := hC.2.2.2.2.2.2.2.1
  have e2 : σ.2 5 s 2 = lN (A 5 s 2) := (hC.1 s hs).2.2.1
  have e' : (sgB σ nb (nI s) (nI w) (nI n) (nI p) (nI q) (lN (A 5 s 2))).1 0 0 4 = nI nb := e4
  refine ⟨sI (sgB σ nb (nI s) (nI w) (nI n) (nI p) (nI q) (lN (A 5 s 2))) 0 0 4 (nI (nb + 1)), ?_, hC.addB hW n2, hW.addB h8 hs w2 n1 n2 p1 p2 g1 g2⟩
  unfold FX4_addBird
  rw [spAt_in h4 hs, Option.bind_some, oc_s, if_pos hs, in4y (show ¬ (nI w < 0 ∨ 20 < nI w) from q2), Option.bind_some, if_neg n10, in4y (show ¬ (nI n < 8 ∨ 96 < nI n) from q3), Option.bind_some, if_neg n10, in4y (show ¬ (nI p < 1 ∨ 12 < nI p) from q4), Option.bind_some, if_neg n10, in4y (show ¬ (nI q < 1 ∨ 12 < nI q) from q5), Option.bind_some, if_neg n10]
  dsimp only
  rw [e4, e2, e', if_neg (nI_pos (by omega)), if_pos (show nI nb < (8 : Int32) from nI_lt (b := 8) (by omega) (by decide)), if_neg (nI_in (by omega) (by decide)), nI_clamp (by omega), if_pos rfl, nI_1]
/-- a pin that is not there is laid -/
theorem pinC {A : Ab} {ns nb T : Nat} {σ : Sg} (hC : Cm A ns nb σ) (hW : Wf A ns nb T) {b x l : Nat} (hb : b < nb) (hx : x < A 6 b 2) (hl : l < 6) (hz : A 7 b x / 2 ^ l % 2 = 0) (h24 : A 6 b 8 < 24) : ∃ σ1 : Sg, FX4_pin ns nb σ (nI b) (nI x) (nI l) = some (.inr (nI (A 6 b 8 + 1)), σ1) ∧ Cm (aU (aU A 6 b 8 (A 6 b 8 + 1)) 7 b x (A 7 b x ^^^ 2 ^ l)) ns nb σ1 ∧ Wf (aU (aU A 6 b 8 (A 6 b 8 + 1)) 7 b x (A 7 b x ^^^ 2 ^ l)) ns nb T := by
  have h8 : nb ≤ 8 := hW.2.1
  obtain ⟨w0, w1, w2, w3, w4, w5, w6, w7, w8, -⟩ := hW.2.2.2.2.1 b hb
  obtain ⟨c0, c1, c2, c3, c4, c8, -⟩ := hC.2.1 b hb
  have q2 : ¬ (nI x < 0 ∨ nI (A 6 b 2) - 1 < nI x) := by rw [rng0 (by omega)]; exact fun z => z (vp_in_nI hx (by omega))
  have q := in_rng (x := 0) (y := 5) (j := l) (by omega) (by omega) (by decide)
  have c7 : σ.1 7 b x = nI (A 7 b x) := hC.2.2.1 b hb x (by omega)
  have hv : A 7 b x < 64 := hW.2.2.2.2.2.1.1 b x
  have eb := pn_bit ⟨_, hv⟩ ⟨l, by omega⟩
  obtain ⟨ex, hx64⟩ := pn_xor ⟨_, hv⟩ ⟨l, by omega⟩
  have hcn := pn_cnt ⟨_, hv⟩ ⟨l, by omega⟩
  dsimp only at eb ex hx64 hcn
  have hpin : FX0_hasPin ns nb σ b (nI x) (nI l) = some (nI 0, σ) := by
    unfold FX0_hasPin
    rw [at4 (k := 7) (N := 96) rfl (by decide) (by omega), Option.bind_some]
    dsimp only
    rw [c7, eb, hz, if_neg (show ¬ nI 0 = 1 by decide)]
    rfl
  have turn : FX0_turnPin ns nb σ b (nI x) (nI l) = some (sI (sI σ 6 b 8 (nI (A 6 b 8 + 1))) 7 b x (nI (A 7 b x ^^^ 2 ^ l))) := by
    unfold FX0_turnPin
    rw [hpin, Option.bind_some]
    dsimp only
    rw [if_pos (show nI 0 = 0 from rfl), c8, nI_1, at4 (k := 7) (N := 96) rfl (by decide) (by omega), Option.bind_some]
    dsimp only
    rw [show (sI σ 6 b 8 (nI (A 6 b 8 + 1))).1 7 b x = nI (A 7 b x) from c7, ex, put4 (k := 7) (N := 96) rfl (by decide) (by omega), Option.bind_some]
  refine ⟨sI (sI σ 6 b 8 (nI (A 6 b 8 + 1))) 7 b x (nI (A 7 b x ^^^ 2 ^ l)), ?_, hC.pn, hW.pn hb (by omega) hx64 (by omega) (by omega)⟩
  unfold FX4_pin
  rw [bdAt_in h8 hb, Option.bind_some, oc_s, if_pos hb]
  unfold FX0_hasPlace
  rw [c2, in4y q2, Option.bind_some, if_pos (Or.inr rfl), Option.bind_some, if_neg n10, in4y (show ¬ (nI l < 0 ∨ 5 < nI l) from q), Option.bind_some, if_neg n10, hpin, Option.bind_some]
  dsimp only
  rw [if_pos (show nI 0 = 0 from rfl), c8, if_pos (show nI (A 6 b 8) < 24 from nI_lt (b := 24) h24 (by decide)), turn, Option.bind_some, sI_eq, if_neg (by omega), sI_eq, if_pos ⟨rfl, rfl, rfl⟩]
theorem tuneC {A : Ab} {ns nb T : Nat} {σ : Sg} (hC : Cm A ns nb σ) (hW : Wf A ns nb T) {b l j : Nat} (hb : b < nb) (hl : l < 6) (hj : j ≤ 87) : ∃ σ1 : Sg, FX4_tune ns nb σ (nI b) (nI l) (nI j) = some (.inr (nI (A 8 b l)), σ1) ∧ Cm (aU A 8 b l j) ns nb σ1 ∧ Wf (aU A 8 b l j) ns nb T := by
  have h8 : nb ≤ 8 := hW.2.1
  have q := in_rng (x := 0) (y := 5) (j := l) (by omega) (by omega) (by decide)
  have q3 := in_rng (x := 0) (y := 87) (j := j) (by omega) hj (by decide)
  have c1 : σ.1 8 b l = nI (A 8 b l) := hC.2.2.2.1 b hb l (by omega)
  refine ⟨sI σ 8 b l (nI j), ?_, hC.nt, hW.nt hj⟩
  unfold FX4_tune
  rw [bdAt_in h8 hb, Option.bind_some, oc_s, if_pos hb, in4y (show ¬ (nI l < 0 ∨ 5 < nI l) from q), Option.bind_some, if_neg n10, in4y (show ¬ (nI j < 0 ∨ 87 < nI j) from q3), Option.bind_some, if_neg n10, at4 (k := 8) (N := 6) rfl (by decide) (by omega), Option.bind_some, put4 (k := 8) (N := 6) rfl (by decide) (by omega), Option.bind_some, c1]
/-- a point is laid (in the place of one that is there) -/
theorem pointC {A : Ab} {ns nb T : Nat} {σ : Sg} (hC : Cm A ns nb σ) (hW : Wf A ns nb T) {b c x v : Nat} (hb : b < nb) (hc : c < 3) (hx : x < A 6 b 2) (hv : v ≤ 100) (h8p : A 12 (3 * b + c) x = 0 → ptsA (A 12 (3 * b + c)) (A 6 b 2) < 8) : ∃ σ1 : Sg, FX4_point ns nb σ (nI b) (nI c) (nI x) (nI v) = some (.inr (nI (ptsA (ptU (A 12 (3 * b + c)) x (v + 1)) (A 6 b 2))), σ1) ∧ Cm (aU A 12 (3 * b + c) x (v + 1)) ns nb σ1 ∧ Wf (aU A 12 (3 * b + c) x (v + 1)) ns nb T := by
  have h8 : nb ≤ 8 := hW.2.1
  obtain ⟨w0, w1, w2, w3, -⟩ := hW.2.2.2.2.1 b hb
  have c2 := (hC.2.1 b hb).2.2.1
  have hk : 3 * b + c < 3 * nb := by omega
  have q4 : ¬ (nI x < 0 ∨ nI (A 6 b 2) - 1 < nI x) := by rw [rng0 (by omega)]; exact fun z => z (vp_in_nI hx (by omega))
  have hvI : (nI v).toInt = (v : Int) := nI_toInt (by omega)
  have q5 : ¬ (nI v < -1 ∨ 100 < nI v) := by
    rw [Int32.lt_iff_toInt_lt, Int32.lt_iff_toInt_lt, hvI, m1I, show (100 : Int32).toInt = 100 by decide]
    omega
  have hcm : cmK (A 12 (3 * b + c)) (A 6 b 2) (3 * b + c) σ := hC.2.2.2.2.1 b hb c hc
  have hP : ∀ y, A 12 (3 * b + c) y ≤ 101 := fun y => hW.2.2.2.2.2.2.2.1.1 _ y
  have hp8 : ptsA (A 12 (3 * b + c)) (A 6 b 2) ≤ 8 := (hW.2.2.2.2.2.2.2.1.2.2 b hb c hc).2
  have nm1 : ¬ nI v = -1 := fun q => by
    have := congrArg Int32.toInt q
    rw [hvI, m1I] at this
    omega
  obtain ⟨σ', t1, t2, t3, t4⟩ := layC (ns := ns) (nb := nb) (v := v) (by omega) w3 hx hv hP hcm
  have hu := pts_upd (A 12 (3 * b + c)) x (v + 1) (A 6 b 2)
  have hle : ptsA (ptU (A 12 (3 * b + c)) x (v + 1)) (A 6 b 2) ≤ 8 := by
    unfold ptU
    by_cases hz : A 12 (3 * b + c) x = 0
    · have := h8p hz
      rw [if_neg (fun q => q.2 hz), if_pos ⟨hx, by omega⟩] at hu
      omega
    · rw [if_pos ⟨hx, hz⟩, if_pos ⟨hx, by omega⟩] at hu
      omega
  refine ⟨σ', ?_, hC.pt hc t2 t3 t4, hW.pt hb hc hx (by omega) hle⟩
  unfold FX4_point
  rw [bdAt_in h8 hb, Option.bind_some, oc_s, if_pos hb]
  dsimp only
  rw [cmAt_in hc, Option.bind_some, oc_s, if_pos hk]
  dsimp only
  unfold FX0_hasPlace
  rw [c2, in4y q4, Option.bind_some, if_pos (Or.inr rfl), Option.bind_some, if_neg n10]
  dsimp only
  rw [in4y q5, Option.bind_some, if_neg n10, hasP hcm.2.1 (by omega), Option.bind_some, c2, if_neg nm1]
  dsimp only
  by_cases hz : A 12 (3 * b + c) x = 0
  · rw [if_pos hz, if_pos rfl, hcm.1, if_pos (show nI (ptsA (A 12 (3 * b + c)) (A 6 b 2)) < 8 from nI_lt (b := 8) (h8p hz) (by decide)), if_neg nm1, t1, Option.bind_some, t4.1]
  · rw [if_neg hz, if_neg n10, if_neg nm1, t1, Option.bind_some, t4.1]
theorem run1C {A : Ab} {ns nb T : Nat} {σ : Sg} (hC : Cm A ns nb σ) (hW : Wf A ns nb T) (hT : T ≤ 516) (ht : A 0 0 6 < 500 * T) : ∃ σ1 : Sg, FX4_run ns nb σ (nI 1) = some (.inr (nI (tickA ns nb A 3 0 2 - A 3 0 2)), σ1) ∧ Cm (tickA ns nb A) ns nb σ1 ∧ Wf (tickA ns nb A) ns nb T := by
  have q := in_rng (x := 1) (y := 500) (j := 1) (by decide) (by decide) (by decide)
  obtain ⟨n1, n2, n3⟩ := tick_ok (ns := ns) (nb := nb) hW (by omega)
  obtain ⟨σ1, p1, p2, p3⟩ := rnC (ns := ns) (nb := nb) (T := T) (j := 1) hT (by decide) 1 0 0 4100 A σ (by omega) (by omega) hW (by omega) hC
  refine ⟨σ1, ?_, p3, n1⟩
  unfold FX4_run
  rw [in4y (show ¬ (nI 1 < 1 ∨ 500 < nI 1) from q), Option.bind_some, if_neg n10]
  dsimp only
  rw [show LX4_run_25 ns nb (nI 1) 4100 0 0 σ = _ from p1, Option.bind_some, Nat.zero_add]
  rfl
theorem chordC {A : Ab} {ns nb T : Nat} {σ : Sg} (hC : Cm A ns nb σ) (hW : Wf A ns nb T) {t : Nat} (ht : t < 2 ^ 31) : FX4_chord ns nb σ (nI t) = some (.inr (nI (ctA A (nI t) (A 3 0 1))), σ) := by
  obtain ⟨h250, hb⟩ := hW.2.2.2.2.2.2.2.2.1
  have hn : ∀ j, j < A 3 0 1 → A 4 0 (4 * j + 3) ≤ 87 := fun j hj => (hb j hj).2
  have h0 : (0 : Int32) ≤ nI t := nI_le (a := 0) (by omega) ht
  have z0 : ∀ v, Nat.testBit 0 v = false := fun v => Nat.zero_testBit v
  obtain ⟨lo, hi, g1, g2, g3, g4⟩ := ch22 (ns := ns) (nb := nb) (t := nI t) hC.2.2.2.2.2.1 h250 hn (A 3 0 1) 0 4100 0 0 (by omega) (by omega) (by decide) (by decide) (fun v _ => z0 v) (fun v _ => z0 v) (show pcB 0 + pcB 0 = 0 by decide +kernel)
  unfold FX4_chord
  rw [if_pos h0, show LX4_chord_22 ns nb (nI t) 4100 0 0 0 σ = _ from g4, Option.bind_some]
  dsimp only
  rw [pop64 g1, Option.bind_some]
  dsimp only
  rw [pop64 g2, Option.bind_some]
  dsimp only
  rw [nI_add, g3]
/-- the longest run of one bird -/
def lgT (A : Ab) : Nat := lgA (fun j => A 4 0 (4 * j + 1)) (A 3 0 1) 0 0 0
theorem longestC {A : Ab} {ns nb T : Nat} {σ : Sg} (hC : Cm A ns nb σ) (hW : Wf A ns nb T) : FX4_longest ns nb σ = some (nI (lgT A), σ) := by
  obtain ⟨h250, hb⟩ := hW.2.2.2.2.2.2.2.2.1
  have hs : ∀ j, j < A 3 0 1 → A 4 0 (4 * j + 1) < 8 := fun j hj => by have := (hb j hj).1; have := hW.2.1; omega
  have r4 : LX4_longest_9 ns nb 4100 0 0 (-1) 0 σ = _ := long4 (ns := ns) (nb := nb) hC.2.2.2.2.2.1 h250 hs (A 3 0 1) 0 0 0 4100 (by omega) (by omega) (by omega) (by omega)
  unfold FX4_longest
  rw [r4]
  rfl
theorem lgA_le (S : Nat → Nat) : ∀ (m most row k : Nat), most ≤ k → row ≤ k → lgA S m most row k ≤ k + m := by
  intro m
  induction m with
  | zero => intro most row k h1 h2; exact h1
  | succ m ih =>
    intro most row k h1 h2
    rw [lgA]
    split
    · have := ih (max most (row + 1)) (row + 1) (k + 1) (by omega) (by omega)
      omega
    · have := ih (max most 1) 1 (k + 1) (by omega) (by omega)
      omega
theorem lgT_le (A : Ab) : lgT A ≤ A 3 0 1 := by
  have := lgA_le (fun j => A 4 0 (4 * j + 1)) (A 3 0 1) 0 0 0 (by omega) (by omega)
  unfold lgT
  omega
theorem emptyC {A : Ab} {ns nb T : Nat} {σ : Sg} (hC : Cm A ns nb σ) (hW : Wf A ns nb T) : ∃ σ1 : Sg, FX4_emptySongs ns nb σ = some (nI (A 3 0 1), σ1) ∧ Cm (emA A) ns nb σ1 ∧ Wf (emA A) ns nb T := by
  refine ⟨sI (sI σ 3 0 1 0) 3 0 2 0, ?_, ?_, ?_⟩
  · rw [← hC.2.2.2.2.2.1.1]; rfl
  · obtain ⟨h1, h2, h3, h4, h5, h6, h7⟩ := hC
    exact ⟨h1, h2, h3, h4, h5, ⟨rfl, rfl, fun j hj => absurd hj (Nat.not_lt_zero j)⟩, h7⟩
  · obtain ⟨h1, h2, h3, h4, h5, h6, h7, h8, h9, h10⟩ := hW
    exact ⟨h1, h2, h3, h4, h5, h6, h7, h8, ⟨Nat.zero_le _, fun j hj => absurd hj (Nat.not_lt_zero j)⟩, h10⟩
theorem liftXC {A : Ab} {ns nb T : Nat} {σ : Sg} (hC : Cm A ns nb σ) (hW : Wf A ns nb T) {b c x : Nat} (hb : b < nb) (hc : c < 3) (hx : x < A 6 b 2) : FX4_lift ns nb σ (nI b) (nI c) (nI x) = some (.inr (nI (lfN A b c x)), σ) := by
  have h8 : nb ≤ 8 := hW.2.1
  have w3 := (hW.2.2.2.2.1 b hb).2.2.2.1
  have c2 := (hC.2.1 b hb).2.2.1
  have hk : 3 * b + c < 3 * nb := by omega
  have q4 : ¬ (nI x < 0 ∨ nI (A 6 b 2) - 1 < nI x) := by rw [rng0 (by omega)]; exact fun z => z (vp_in_nI hx (by omega))
  have nm1 : ¬ nI x = -1 := neg1_ne x (by omega)
  unfold FX4_lift
  rw [bdAt_in h8 hb, Option.bind_some, oc_s, if_pos hb]
  dsimp only
  rw [cmAt_in hc, Option.bind_some, oc_s, if_pos hk]
  dsimp only
  rw [if_neg nm1]
  unfold FX0_hasPlace
  rw [c2, in4y q4, Option.bind_some, if_pos (Or.inr rfl), Option.bind_some, if_neg n10, if_neg nm1]
  dsimp only
  rw [at4 (k := 12) (N := 96) rfl (by decide) (by omega), Option.bind_some]
  dsimp only
  rw [(lfN_c hC hW hb hc hx).1]
/-- below: a number below n -/
theorem and31 (v : Int32) : ∃ k, k < 2 ^ 31 ∧ v &&& 2147483647 = nI k := by
  have hk : v.toBitVec.toNat &&& 2147483647 < 2 ^ 31 := Nat.lt_of_le_of_lt Nat.and_le_right (by decide)
  refine ⟨v.toBitVec.toNat &&& 2147483647, hk, Int32.toBitVec_inj.mp (BitVec.eq_of_toNat_eq ?_)⟩
  show (v.toBitVec &&& (2147483647 : Int32).toBitVec).toNat = (BitVec.ofNat 32 (v.toBitVec.toNat &&& 2147483647)).toNat
  rw [BitVec.toNat_and, BitVec.toNat_ofNat, Nat.mod_eq_of_lt (by omega)]
  rfl
theorem belowC {ns nb n : Nat} {σ : Sg} (hn : 0 < n) (hn2 : n < 2 ^ 31) (v : Int32) : ∃ j, j < n ∧ FL_below ns nb σ v (nI n) = some (nI j, σ) := by
  obtain ⟨k, hk, e⟩ := and31 v
  refine ⟨k % n, Nat.mod_lt _ hn, ?_⟩
  unfold FL_below
  rw [e, if_neg (nI_ne0 hn hn2), pk_rem hk hn hn2]
