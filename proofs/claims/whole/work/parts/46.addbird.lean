/-! ADDBIRD -/
def nbA (A : Ab) (nb s w n p q : Nat) : Ab := fun k i f => if k = 6 ∧ i = nb then (if f = 0 then s else if f = 1 then w else if f = 2 then n else if f = 3 then p else if f = 4 then q else if f = 9 then 1 else if f = 10 then A 5 s 2 else 0) else if k = 8 ∧ i = nb then (if f < 6 then 60 + 2 * f else 0) else A k i f
theorem nbA_o {A : Ab} {nb s w n p q k i f : Nat} (h : ¬ ((k = 6 ∨ k = 8) ∧ i = nb)) : nbA A nb s w n p q k i f = A k i f := by
  unfold nbA
  rw [if_neg (by omega), if_neg (by omega)]
theorem bkA_0 {P : Nat → Nat} (h : ∀ x, P x = 0) (n x : Nat) : ∀ m d, bkA P n x m d = d + m := by
  intro m
  induction m with
  | zero => intro d; rfl
  | succ m ih => intro d; rw [bkA, if_pos (h _), ih]; omega
theorem ptsA_0 {P : Nat → Nat} (h : ∀ x, P x = 0) : ∀ n, ptsA P n = 0 := by
  intro n
  induction n with
  | zero => rfl
  | succ n ih => rw [ptsA, ih, if_pos (h _)]
theorem lfA_0 {P : Nat → Nat} (h : ∀ x, P x = 0) (n x : Nat) : lfA P n x = 0 := by
  unfold lfA
  rw [bkA_0 h, Nat.zero_add, if_pos rfl]
theorem ntC_v : ∀ f : Fin 6, ntC f.val = nI (60 + 2 * f.val) := by decide +kernel
theorem Cm.addB {A : Ab} {ns nb T : Nat} {σ : Sg} (h : Cm A ns nb σ) (hW : Wf A ns nb T) {s w n p q : Nat} (hn : n ≤ 96) : Cm (nbA A nb s w n p q) ns (nb + 1) (sI (sgB σ nb (nI s) (nI w) (nI n) (nI p) (nI q) (lN (A 5 s 2))) 0 0 4 (nI (nb + 1))) := by
  obtain ⟨h1, h2, h3, h4, h5, h6, h7⟩ := h
  have hl := hW.2.2.2.2.2.1.2.1
  have hc := hW.2.2.2.2.2.2.2.1.2.1
  refine ⟨h1, fun j hj => ?_, fun j hj x hx => ?_, fun j hj x hx => ?_, fun j hj c hcc => ?_, h6, ?_⟩
  · by_cases zj : j = nb
    · subst zj
      have e : ∀ f, (sI (sgB σ j (nI s) (nI w) (nI n) (nI p) (nI q) (lN (A 5 s 2))) 0 0 4 (nI (j + 1))).1 6 j f = if f = 0 then nI s else if f = 1 then nI w else if f = 2 then nI n else if f = 3 then nI p else if f = 4 then nI q else if f = 9 then 1 else 0 := fun f => if_pos ⟨rfl, rfl⟩
      have e2 : ∀ f, (sI (sgB σ j (nI s) (nI w) (nI n) (nI p) (nI q) (lN (A 5 s 2))) 0 0 4 (nI (j + 1))).2 6 j f = if f = 10 then lN (A 5 s 2) else 0 := fun f => if_pos ⟨rfl, rfl⟩
      have e3 : ∀ f, nbA A j s w n p q 6 j f = if f = 0 then s else if f = 1 then w else if f = 2 then n else if f = 3 then p else if f = 4 then q else if f = 9 then 1 else if f = 10 then A 5 s 2 else 0 := fun f => if_pos ⟨rfl, rfl⟩
      simp only [e, e2, e3]
      exact ⟨rfl, rfl, rfl, rfl, rfl, rfl, rfl, rfl, rfl, rfl⟩
    · have a := h2 j (by omega)
      have e : ∀ f, (sI (sgB σ nb (nI s) (nI w) (nI n) (nI p) (nI q) (lN (A 5 s 2))) 0 0 4 (nI (nb + 1))).1 6 j f = σ.1 6 j f := fun f => (if_neg (by omega))
      have e2 : ∀ f, (sI (sgB σ nb (nI s) (nI w) (nI n) (nI p) (nI q) (lN (A 5 s 2))) 0 0 4 (nI (nb + 1))).2 6 j f = σ.2 6 j f := fun f => if_neg (by omega)
      have e3 : ∀ f, nbA A nb s w n p q 6 j f = A 6 j f := fun f => nbA_o (by omega)
      simp only [e, e2, e3]
      exact a
  · rw [nbA_o (by omega)]
    by_cases zj : j = nb
    · subst zj
      rw [hl j (Nat.le_refl _) x]
      exact if_pos ⟨rfl, rfl⟩
    · exact (if_neg (by omega)).trans (h3 j (by omega) x hx)
  · by_cases zj : j = nb
    · subst zj
      rw [show nbA A j s w n p q 8 j x = 60 + 2 * x from (if_neg (by omega)).trans ((if_pos ⟨rfl, rfl⟩).trans (if_pos hx)), ← ntC_v ⟨x, hx⟩]
      exact if_pos ⟨rfl, rfl⟩
    · rw [nbA_o (by omega)]
      exact (if_neg (by omega)).trans (h4 j (by omega) x hx)
  · have r12 : nbA A nb s w n p q 12 (3 * j + c) = A 12 (3 * j + c) := funext fun f => nbA_o (by omega)
    rw [r12]
    by_cases zj : j = nb
    · subst zj
      have z : ∀ x, A 12 (3 * j + c) x = 0 := fun x => hc _ (by omega) x
      refine ⟨?_, fun x hx => ?_, fun x hx => ?_⟩
      · rw [ptsA_0 z]
        exact if_pos (by omega)
      · rw [z, if_pos rfl]
        exact if_pos (by omega)
      · rw [lfA_0 z, show (sI (sgB σ j (nI s) (nI w) (nI n) (nI p) (nI q) (lN (A 5 s 2))) 0 0 4 (nI (j + 1))).1 12 (3 * j + c) x = 0 from if_pos (by omega)]
        rfl
    · have a := h5 j (by omega) c hcc
      rw [nbA_o (by omega)]
      have e : ∀ k f, 10 ≤ k → k ≤ 12 → (sI (sgB σ nb (nI s) (nI w) (nI n) (nI p) (nI q) (lN (A 5 s 2))) 0 0 4 (nI (nb + 1))).1 k (3 * j + c) f = σ.1 k (3 * j + c) f := fun k f h1 h2 => (if_neg (by omega)).trans ((if_neg (by omega)).trans ((if_neg (by omega)).trans ((if_neg (by omega)).trans (if_neg (by omega)))))
      simp only [e 10 _ (by decide) (by decide), e 11 _ (by decide) (by decide), e 12 _ (by decide) (by decide)]
      exact a
  · exact ⟨h7.1, rfl, h7.2.2⟩
theorem Wf.addB {A : Ab} {ns nb T : Nat} (h : Wf A ns nb T) {s w n p q : Nat} (h8 : nb < 8) (hs : s < ns) (hw : w ≤ 20) (hn : 8 ≤ n) (hn2 : n ≤ 96) (hp : 1 ≤ p) (hp2 : p ≤ 12) (hq : 1 ≤ q) (hq2 : q ≤ 12) : Wf (nbA A nb s w n p q) ns (nb + 1) T := by
  obtain ⟨w1, w2, w3, ⟨w4, w4'⟩, w5, ⟨w6, w6', w6''⟩, w7, ⟨w8, w8', w8''⟩, w9, w10⟩ := h
  have o5 : ∀ i f, nbA A nb s w n p q 5 i f = A 5 i f := fun i f => nbA_o (by omega)
  have o7 : ∀ i f, nbA A nb s w n p q 7 i f = A 7 i f := fun i f => nbA_o (by omega)
  have o12 : ∀ i f, nbA A nb s w n p q 12 i f = A 12 i f := fun i f => nbA_o (by omega)
  have r12 : ∀ i, nbA A nb s w n p q 12 i = A 12 i := fun i => funext (o12 i)
  have o0 : nbA A nb s w n p q 0 0 6 = A 0 0 6 := nbA_o (by omega)
  have o6 : ∀ j f, j ≠ nb → nbA A nb s w n p q 6 j f = A 6 j f := fun j f hj => nbA_o (by omega)
  have e3 : ∀ f, nbA A nb s w n p q 6 nb f = if f = 0 then s else if f = 1 then w else if f = 2 then n else if f = 3 then p else if f = 4 then q else if f = 9 then 1 else if f = 10 then A 5 s 2 else 0 := fun f => if_pos ⟨rfl, rfl⟩
  refine ⟨w1, by omega, by rw [o0]; exact w3, ⟨fun i hi => by rw [o5, o5, o5, o5, o0]; exact w4 i hi, fun i hi f => by rw [o5]; exact w4' i hi f⟩, fun j hj => ?_, ⟨fun i x => by rw [o7]; exact w6 i x, fun i hi x => by rw [o7]; exact w6' i (by omega) x, fun i hi => ?_⟩, fun i x => ?_, ⟨fun k x => by rw [o12]; exact w8 k x, fun k hk x => by rw [o12]; exact w8' k (by omega) x, fun j hj c hc => ?_⟩, ⟨by rw [nbA_o (by omega)]; exact w9.1, fun j hj => ?_⟩, fun a b => by rw [nbA_o (by omega)]; exact w10 a b⟩
  · by_cases z : j = nb
    · subst z
      simp only [e3, o5]
      refine ⟨hs, hw, hn, hn2, hp, hp2, hq, hq2, Nat.zero_le _, Nat.le_refl _, Nat.le_refl _, Nat.zero_le _⟩
    · simp only [o6 j _ z, o5]
      exact w5 j (by omega)
  · by_cases z : i = nb
    · subst z
      rw [e3, fb_sm_cong (g := fun _ => 0) (fun x _ => by rw [o7, w6' i (Nat.le_refl _) x]; rfl), fb_sm_const]
      rfl
    · rw [o6 i 8 z, w6'' i (by omega)]
      exact fb_sm_cong (fun x _ => by rw [o7])
  · by_cases z : i = nb
    · subst z
      rw [show nbA A i s w n p q 8 i x = if x < 6 then 60 + 2 * x else 0 from (if_neg (by omega)).trans (if_pos ⟨rfl, rfl⟩)]
      by_cases z2 : x < 6
      · rw [if_pos z2]; omega
      · rw [if_neg z2]; omega
    · rw [nbA_o (by omega)]; exact w7 i x
  · rw [r12]
    by_cases z : j = nb
    · subst z
      have z2 : ∀ x, A 12 (3 * j + c) x = 0 := fun x => w8' _ (by omega) x
      exact ⟨fun x _ => z2 x, by rw [ptsA_0 z2]; exact Nat.zero_le _⟩
    · rw [o6 j 2 z]; exact w8'' j (by omega) c hc
  · rw [nbA_o (by omega), nbA_o (by omega)]
    rw [nbA_o (by omega)] at hj
    have := w9.2 j hj
    exact ⟨by omega, this.2⟩
theorem ab167 {ns nb n : Nat} (h8 : n < 8) : ∀ (m i fuel : Nat) (τ : Sg), i + m = 6 → m < fuel → τ.1 20 0 3 = nI n → ∃ τ' : Sg, LX5_addBird_167 ns nb fuel (nI i) τ = some τ' ∧ τ'.2 = τ.2 ∧ (∀ k j f, k ≠ 25 → τ'.1 k j f = τ.1 k j f) ∧ ∀ f, τ'.1 25 0 f = if 6 * n + i ≤ f ∧ f < 6 * n + 6 then nI (60 + 2 * (f - 6 * n)) else τ.1 25 0 f := by
  intro m
  induction m with
  | zero =>
    intro i fuel τ hi hf e
    obtain ⟨u, rfl⟩ : ∃ u, fuel = u + 1 := ⟨fuel - 1, by omega⟩
    have : i = 6 := by omega
    subst this
    exact ⟨τ, by rw [LX5_addBird_167, if_pos (show (6 : Int32) ≤ nI 6 by decide)], rfl, fun _ _ _ _ => rfl, fun f => by rw [if_neg (by omega)]⟩
  | succ m ih =>
    intro i fuel τ hi hf e
    obtain ⟨u, rfl⟩ : ∃ u, fuel = u + 1 := ⟨fuel - 1, by omega⟩
    have hg := ixg 6 (i := n) (f := i) (N := 48) (by omega) (by decide)
    have hg1 : ¬ ((6 * nI n + nI i) < 0 ∨ 48 ≤ (6 * nI n + nI i).toNatClampNeg) := hg.1
    have hg2 : (6 * nI n + nI i).toNatClampNeg = 6 * n + i := hg.2
    have ev : (60 : Int32) + (2 * nI i) = nI (60 + 2 * i) := by rw [show (60 : Int32) = nI 60 from rfl, show (2 : Int32) = nI 2 from rfl, pk_mul, nI_add]
    obtain ⟨τ', r1, r2, r3, r4⟩ := ih (i + 1) u (sI τ 25 0 (6 * n + i) (nI (60 + 2 * i))) (by omega) (by omega) e
    refine ⟨τ', ?_, r2, fun k j f hk => (r3 k j f hk).trans (if_neg (by omega)), fun f => ?_⟩
    · rw [LX5_addBird_167, if_neg (show ¬ ((6 : Int32) ≤ nI i) from nI_ge (b := 6) (by omega) (by omega)), e, if_neg hg1, hg2, ev, nI_1]
      exact r1
    · rw [r4 f, sI_eq]
      by_cases z : f = 6 * n + i
      · subst z
        rw [if_neg (by omega), if_pos ⟨rfl, rfl, rfl⟩, if_pos (by omega)]
        congr 1
        omega
      · by_cases z2 : 6 * n + (i + 1) ≤ f ∧ f < 6 * n + 6
        · rw [if_pos z2, if_pos (by omega)]
        · rw [if_neg z2, if_neg (by omega), if_neg (by omega)]
theorem ab205 {ns nb n : Nat} (h8 : n < 8) : ∀ (m i fuel : Nat) (τ : Sg), i + m = 288 → m < fuel → τ.1 20 0 3 = nI n → ∃ τ' : Sg, LX5_addBird_205 ns nb fuel (nI i) τ = some τ' ∧ τ'.2 = τ.2 ∧ (∀ k j f, k ≠ 26 → τ'.1 k j f = τ.1 k j f) ∧ ∀ f, τ'.1 26 0 f = if 288 * n + i ≤ f ∧ f < 288 * n + 288 then -1 else τ.1 26 0 f := by
  intro m
  induction m with
  | zero =>
    intro i fuel τ hi hf e
    obtain ⟨u, rfl⟩ : ∃ u, fuel = u + 1 := ⟨fuel - 1, by omega⟩
    have : i = 288 := by omega
    subst this
    exact ⟨τ, by rw [LX5_addBird_205, if_pos (show (288 : Int32) ≤ nI 288 by decide)], rfl, fun _ _ _ _ => rfl, fun f => by rw [if_neg (by omega)]⟩
  | succ m ih =>
    intro i fuel τ hi hf e
    obtain ⟨u, rfl⟩ : ∃ u, fuel = u + 1 := ⟨fuel - 1, by omega⟩
    have hg := ixg 288 (i := n) (f := i) (N := 2304) (by omega) (by decide)
    have hg1 : ¬ ((288 * nI n + nI i) < 0 ∨ 2304 ≤ (288 * nI n + nI i).toNatClampNeg) := hg.1
    have hg2 : (288 * nI n + nI i).toNatClampNeg = 288 * n + i := hg.2
    obtain ⟨τ', r1, r2, r3, r4⟩ := ih (i + 1) u (sI τ 26 0 (288 * n + i) (-1)) (by omega) (by omega) e
    refine ⟨τ', ?_, r2, fun k j f hk => (r3 k j f hk).trans (if_neg (by omega)), fun f => ?_⟩
    · rw [LX5_addBird_205, if_neg (show ¬ ((288 : Int32) ≤ nI i) from nI_ge (b := 288) (by omega) (by omega)), e, if_neg hg1, hg2, nI_1]
      exact r1
    · rw [r4 f, sI_eq]
      by_cases z : f = 288 * n + i
      · subst z
        rw [if_neg (by omega), if_pos ⟨rfl, rfl, rfl⟩, if_pos (by omega)]
      · by_cases z2 : 288 * n + (i + 1) ≤ f ∧ f < 288 * n + 288
        · rw [if_pos z2, if_pos (by omega)]
        · rw [if_neg z2, if_neg (by omega), if_neg (by omega)]
theorem Mm.addB {A : Ab} {ns nb T : Nat} {τ τ' : Sg} (h : Mm A ns nb τ) (hW : Wf A ns nb T) (h8 : nb < 8) {s w n p q : Nat}
    (ho : ∀ k j f, k ≠ 22 → k ≠ 25 → k ≠ 26 → ¬ (k = 20 ∧ f = 3) → τ'.1 k j f = τ.1 k j f) (e3 : τ'.1 20 0 3 = nI (nb + 1))
    (e22 : ∀ f, (f < 11 * nb ∨ 11 * nb + 11 ≤ f) → τ'.1 22 0 f = τ.1 22 0 f) (e25 : ∀ f, (f < 6 * nb ∨ 6 * nb + 6 ≤ f) → τ'.1 25 0 f = τ.1 25 0 f) (e26 : ∀ f, (f < 288 * nb ∨ 288 * nb + 288 ≤ f) → τ'.1 26 0 f = τ.1 26 0 f)
    (n22 : τ'.1 22 0 (11 * nb) = nI s ∧ τ'.1 22 0 (11 * nb + 1) = nI w ∧ τ'.1 22 0 (11 * nb + 2) = nI n ∧ τ'.1 22 0 (11 * nb + 3) = nI p ∧ τ'.1 22 0 (11 * nb + 4) = nI q ∧ τ'.1 22 0 (11 * nb + 5) = 0 ∧ τ'.1 22 0 (11 * nb + 6) = 1 ∧ τ'.1 22 0 (11 * nb + 7) = 0 ∧ τ'.1 22 0 (11 * nb + 8) = 0 ∧ τ'.1 22 0 (11 * nb + 9) = 0 ∧ τ'.1 22 0 (11 * nb + 10) = nI (A 5 s 2))
    (n25 : ∀ x, x < 6 → τ'.1 25 0 (6 * nb + x) = nI (60 + 2 * x)) (n26 : ∀ x, x < 288 → τ'.1 26 0 (288 * nb + x) = -1) : Mm (nbA A nb s w n p q) ns (nb + 1) τ' := by
  obtain ⟨h1, h2, h3, h4, h5, h6, h7, h8'⟩ := h
  have hc := hW.2.2.2.2.2.2.2.1.2.1
  refine ⟨fun i hi f hf => ?_, fun j hj => ?_, fun j hj x hx => ?_, fun j hj x hx => ?_, fun k hk x hx => ?_, ⟨?_, ?_, fun j hj => ?_⟩, fun a ha b hb => ?_, ?_⟩
  · rw [ho _ _ _ (by decide) (by decide) (by decide) (by omega), nbA_o (by omega)]; exact h1 i hi f hf
  · by_cases z : j = nb
    · subst z
      have e : ∀ f, nbA A j s w n p q 6 j f = if f = 0 then s else if f = 1 then w else if f = 2 then n else if f = 3 then p else if f = 4 then q else if f = 9 then 1 else if f = 10 then A 5 s 2 else 0 := fun f => if_pos ⟨rfl, rfl⟩
      obtain ⟨a0, a1, a2, a3, a4, a5, a6, a7, a8, a9, a10⟩ := n22
      simp only [e]
      refine ⟨a0, a1, a2, a3, a4, a5.trans ?_, a6, a7, a8, a9, a10⟩
      show (0 : Int32) = nI (0 % n)
      rw [Nat.zero_mod]; rfl
    · have e : ∀ f, f < 11 → τ'.1 22 0 (11 * j + f) = τ.1 22 0 (11 * j + f) := fun f hf => e22 _ (by omega)
      have e0 : τ'.1 22 0 (11 * j) = τ.1 22 0 (11 * j) := e 0 (by decide)
      have ea : ∀ f, nbA A nb s w n p q 6 j f = A 6 j f := fun f => nbA_o (by omega)
      simp only [e0, e 1 (by decide), e 2 (by decide), e 3 (by decide), e 4 (by decide), e 5 (by decide), e 6 (by decide), e 7 (by decide), e 8 (by decide), e 9 (by decide), e 10 (by decide), ea]
      exact h2 j (by omega)
  · rw [ho _ _ _ (by decide) (by decide) (by decide) (by omega), nbA_o (by omega)]; exact h3 j hj x hx
  · by_cases z : j = nb
    · subst z
      rw [n25 x hx, show nbA A j s w n p q 8 j x = 60 + 2 * x from (if_neg (by omega)).trans ((if_pos ⟨rfl, rfl⟩).trans (if_pos hx))]
    · rw [e25 _ (by omega), nbA_o (by omega)]; exact h4 j (by omega) x hx
  · rw [nbA_o (by omega)]
    by_cases z : k < 3 * nb
    · rw [e26 _ (by omega)]; exact h5 k z x hx
    · rw [show 96 * k + x = 288 * nb + (96 * (k - 3 * nb) + x) by omega, n26 _ (by omega), hc k (by omega) x]
      rfl
  · rw [ho _ _ _ (by decide) (by decide) (by decide) (by omega), nbA_o (by omega)]; exact h6.1
  · rw [ho _ _ _ (by decide) (by decide) (by decide) (by omega), nbA_o (by omega)]; exact h6.2.1
  · rw [nbA_o (by omega)] at hj
    rw [ho _ _ _ (by decide) (by decide) (by decide) (by omega), nbA_o (by omega)]; exact h6.2.2 j hj
  · rw [ho _ _ _ (by decide) (by decide) (by decide) (by omega), nbA_o (by omega)]; exact h7 a ha b hb
  · refine ⟨?_, e3, ?_, ?_⟩
    · rw [ho _ _ _ (by decide) (by decide) (by decide) (by omega)]; exact h8'.1
    · rw [ho _ _ _ (by decide) (by decide) (by decide) (by omega), nbA_o (by omega)]; exact h8'.2.2.1
    · rw [ho _ _ _ (by decide) (by decide) (by decide) (by omega)]; exact h8'.2.2.2
