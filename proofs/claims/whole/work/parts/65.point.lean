/-! A POINT LAID OR TAKEN, IN THE COMPONENT -/
def cmK (P : Nat → Nat) (n k : Nat) (σ : Sg) : Prop := σ.1 10 k 2 = nI (ptsA P n) ∧ (∀ x, x < 96 → σ.1 11 k x = if P x = 0 then 0 else 1) ∧ ∀ x, x < n → (σ.1 12 k x).toInt = lfA P n x
def ptU (P : Nat → Nat) (x w : Nat) : Nat → Nat := fun y => if y = x then w else P y
theorem ptU_le {P : Nat → Nat} (hP : ∀ x, P x ≤ 101) {x w : Nat} (hw : w ≤ 101) : ∀ y, ptU P x w y ≤ 101 := by
  intro y
  unfold ptU
  split
  · exact hw
  · exact hP y
theorem layC {ns nb k n x v : Nat} {σ : Sg} {P : Nat → Nat} (hn : 0 < n) (hn2 : n ≤ 96) (hx : x < n) (hv : v ≤ 100) (hP : ∀ x, P x ≤ 101) (h : cmK P n k σ) : ∃ σ' : Sg, FX1_layPoint ns nb σ k (nI x) (nI v) (nI n) = some σ' ∧ σ'.2 = σ.2 ∧ (∀ k' j' f', ¬ ((k' = 10 ∧ f' = 2 ∨ k' = 11 ∨ k' = 12) ∧ j' = k) → σ'.1 k' j' f' = σ.1 k' j' f') ∧ cmK (ptU P x (v + 1)) n k σ' := by
  obtain ⟨hpt, hm, hl⟩ := h
  have hu := pts_upd P x (v + 1) n
  have hvI : (nI v).toInt = (v : Int) := nI_toInt (by omega)
  have key : ∀ σ0 : Sg, σ0.2 = σ.2 → (∀ k' j' f', ¬ (k' = 10 ∧ f' = 2 ∧ j' = k) → σ0.1 k' j' f' = σ.1 k' j' f') → σ0.1 10 k 2 = nI (ptsA (ptU P x (v + 1)) n) → ∃ σ' : Sg, FX1_draw ns nb (sI (sI σ0 11 k x 1) 12 k x (nI v)) k (nI n) = some σ' ∧ σ'.2 = σ.2 ∧ (∀ k' j' f', ¬ ((k' = 10 ∧ f' = 2 ∨ k' = 11 ∨ k' = 12) ∧ j' = k) → σ'.1 k' j' f' = σ.1 k' j' f') ∧ cmK (ptU P x (v + 1)) n k σ' := by
    intro σ0 e2 e1 ep
    have mk : ∀ y, y < 96 → (sI (sI σ0 11 k x 1) 12 k x (nI v)).1 11 k y = if ptU P x (v + 1) y = 0 then 0 else 1 := by
      intro y hy
      rw [sI_eq, if_neg (by omega), sI_eq]
      unfold ptU
      by_cases q : y = x
      · rw [if_pos ⟨rfl, rfl, q⟩, if_pos q, if_neg (by omega)]
      · rw [if_neg (fun z => q z.2.2), if_neg q, e1 _ _ _ (by omega)]
        exact hm y hy
    obtain ⟨σ', t1, t2, t3, t4⟩ := drawC (ns := ns) (nb := nb) (k := k) (σ := sI (sI σ0 11 k x 1) 12 k x (nI v)) (P := ptU P x (v + 1)) hn hn2 (ptU_le hP (by omega)) mk ep (fun y hy h0 => by
      rw [sI_eq]
      unfold ptU at h0 ⊢
      by_cases q : y = x
      · rw [if_pos ⟨rfl, rfl, q⟩, if_pos q, hvI]
        omega
      · rw [if_neg q] at h0
        rw [if_neg (fun z => q z.2.2), if_neg q, sI_eq, if_neg (by omega), e1 _ _ _ (by omega), hl y hy, lf_pt hy h0])
    refine ⟨σ', t1, t2.trans e2, fun k' j' f' hk => ?_, ?_, fun y hy => ?_, t4⟩
    · rw [t3 k' j' f' (by omega), sI_eq, if_neg (by omega), sI_eq, if_neg (by omega), e1 k' j' f' (by omega)]
    · rw [t3 10 k 2 (by omega)]
      exact ep
    · rw [t3 11 k y (by omega)]
      exact mk y hy
  unfold FX1_layPoint
  rw [hasP hm (by omega), Option.bind_some]
  dsimp only
  by_cases hz : P x = 0
  · rw [if_neg (fun q => q.2 hz), if_pos ⟨hx, by omega⟩] at hu
    obtain ⟨σ', t1, t2⟩ := key (sI σ 10 k 2 (nI (ptsA P n + 1))) rfl (fun k' j' f' hk => if_neg (by omega)) (by
      rw [sI_eq, if_pos ⟨rfl, rfl, rfl⟩]
      exact congrArg nI hu.symm)
    refine ⟨σ', ?_, t2⟩
    rw [if_pos hz, if_pos rfl, hpt, nI_1, put4 (k := 11) (N := 96) rfl (by decide) (by omega), Option.bind_some, put4 (k := 12) (N := 96) rfl (by decide) (by omega), Option.bind_some, t1]
    rfl
  · rw [if_pos ⟨hx, hz⟩, if_pos ⟨hx, by omega⟩] at hu
    obtain ⟨σ', t1, t2⟩ := key σ rfl (fun k' j' f' hk => rfl) (by
      rw [hpt]
      exact congrArg nI (Nat.add_right_cancel hu).symm)
    refine ⟨σ', ?_, t2⟩
    rw [if_neg hz, if_neg n10, put4 (k := 11) (N := 96) rfl (by decide) (by omega), Option.bind_some, put4 (k := 12) (N := 96) rfl (by decide) (by omega), Option.bind_some, t1]
    rfl
theorem takeC {ns nb k n x : Nat} {σ : Sg} {P : Nat → Nat} (hn : 0 < n) (hn2 : n ≤ 96) (hx : x < n) (hP : ∀ x, P x ≤ 101) (hz : P x ≠ 0) (h : cmK P n k σ) : ∃ σ' : Sg, FX1_takePoint ns nb σ k (nI x) (nI n) = some σ' ∧ σ'.2 = σ.2 ∧ (∀ k' j' f', ¬ ((k' = 10 ∧ f' = 2 ∨ k' = 11 ∨ k' = 12) ∧ j' = k) → σ'.1 k' j' f' = σ.1 k' j' f') ∧ cmK (ptU P x 0) n k σ' := by
  obtain ⟨hpt, hm, hl⟩ := h
  have hu := pts_upd P x 0 n
  rw [if_pos ⟨hx, hz⟩, if_neg (by omega)] at hu
  have hpt1 : σ.1 10 k 2 - 1 = nI (ptsA (ptU P x 0) n) := by
    have e : ptsA P n = ptsA (ptU P x 0) n + 1 := by
      unfold ptU
      omega
    rw [hpt, e, nI_pred]
  have mk : ∀ y, y < 96 → (sI (sI σ 10 k 2 (nI (ptsA (ptU P x 0) n))) 11 k x 0).1 11 k y = if ptU P x 0 y = 0 then 0 else 1 := by
    intro y hy
    rw [sI_eq]
    unfold ptU
    by_cases q : y = x
    · rw [if_pos ⟨rfl, rfl, q⟩, if_pos q, if_pos rfl]
    · rw [if_neg (fun z => q z.2.2), if_neg q, sI_eq, if_neg (by omega)]
      exact hm y hy
  obtain ⟨σ', t1, t2, t3, t4⟩ := drawC (ns := ns) (nb := nb) (k := k) (σ := sI (sI σ 10 k 2 (nI (ptsA (ptU P x 0) n))) 11 k x 0) (P := ptU P x 0) hn hn2 (ptU_le hP (by omega)) mk (by rw [sI_eq, if_neg (by omega), sI_eq, if_pos ⟨rfl, rfl, rfl⟩]) (fun y hy h0 => by
    rw [sI_eq, if_neg (by omega), sI_eq, if_neg (by omega)]
    unfold ptU at h0 ⊢
    by_cases q : y = x
    · rw [if_pos q] at h0
      exact absurd rfl h0
    · rw [if_neg q] at h0
      rw [if_neg q, hl y hy, lf_pt hy h0])
  refine ⟨σ', ?_, t2, fun k' j' f' hk => ?_, ?_, fun y hy => ?_, t4⟩
  · unfold FX1_takePoint
    rw [hasP hm (by omega), Option.bind_some]
    dsimp only
    rw [if_neg hz, if_neg n10, hpt1, put4 (k := 11) (N := 96) rfl (by decide) (by omega), Option.bind_some, t1]
    rfl
  · rw [t3 k' j' f' (by omega), sI_eq, if_neg (by omega), sI_eq, if_neg (by omega)]
  · rw [t3 10 k 2 (by omega), sI_eq, if_neg (by omega), sI_eq, if_pos ⟨rfl, rfl, rfl⟩]
  · rw [t3 11 k y (by omega)]
    exact mk y hy
theorem pt_row (A : Ab) (k x w : Nat) : aU A 12 k x w 12 k = ptU (A 12 k) x w := by
  funext y
  rw [aU_eq]
  unfold ptU
  by_cases q : y = x
  · rw [if_pos ⟨rfl, rfl, q⟩, if_pos q]
  · rw [if_neg (fun z => q z.2.2), if_neg q]
theorem pt_row2 (A : Ab) {k k' : Nat} (x w : Nat) (h : k' ≠ k) : aU A 12 k x w 12 k' = A 12 k' := by
  funext y
  rw [aU_i h]
theorem Cm.pt {A : Ab} {ns nb : Nat} {σ σ' : Sg} (h : Cm A ns nb σ) {b c x w : Nat} (hc : c < 3) (h2 : σ'.2 = σ.2) (h3 : ∀ k' j' f', ¬ ((k' = 10 ∧ f' = 2 ∨ k' = 11 ∨ k' = 12) ∧ j' = 3 * b + c) → σ'.1 k' j' f' = σ.1 k' j' f') (h4 : cmK (ptU (A 12 (3 * b + c)) x w) (A 6 b 2) (3 * b + c) σ') : Cm (aU A 12 (3 * b + c) x w) ns nb σ' := by
  have e : ∀ k' j' f', k' < 10 → σ'.1 k' j' f' = σ.1 k' j' f' := fun k' j' f' hk => h3 k' j' f' (by omega)
  obtain ⟨a1, a2, a3, a4, a5, a6, a7⟩ := h
  refine ⟨fun i hi => ?_, fun j hj => ?_, fun j hj y hy => by rw [e _ _ _ (by decide)]; exact a3 j hj y hy, fun j hj y hy => by rw [e _ _ _ (by decide)]; exact a4 j hj y hy, fun j hj d hd => ?_, ⟨by rw [e _ _ _ (by decide)]; exact a6.1, by rw [e _ _ _ (by decide)]; exact a6.2.1, fun j hj => by rw [e _ _ _ (by decide)]; exact a6.2.2 j hj⟩, ?_⟩
  · simp only [e 5 _ _ (by decide), h2]; exact a1 i hi
  · simp only [e 6 _ _ (by decide), h2]; exact a2 j hj
  · by_cases q : 3 * j + d = 3 * b + c
    · obtain ⟨rfl, rfl⟩ : j = b ∧ d = c := by omega
      rw [pt_row]
      exact h4
    · rw [pt_row2 _ _ _ q]
      have a := a5 j hj d hd
      refine ⟨?_, fun y hy => ?_, fun y hy => ?_⟩
      · rw [h3 _ _ _ (by omega)]; exact a.1
      · rw [h3 _ _ _ (by omega)]; exact a.2.1 y hy
      · rw [h3 _ _ _ (by omega)]; exact a.2.2 y hy
  · unfold cPl; simp only [e 0 _ _ (by decide)]; exact a7
theorem Mm.pt {A : Ab} {ns nb : Nat} {τ : Sg} (h : Mm A ns nb τ) {k x w : Nat} {v : Int32} (hx : x < 96) (hv : v = nI w - 1) : Mm (aU A 12 k x w) ns nb (sI τ 26 0 (96 * k + x) v) := by
  obtain ⟨h1, h2, h3, h4, h5, h6, h7, h8⟩ := h
  refine ⟨h1, h2, h3, h4, fun j hj y hy => ?_, h6, h7, h8⟩
  rw [sI_eq, aU_eq]
  by_cases q : j = k ∧ y = x
  · obtain ⟨rfl, rfl⟩ := q
    rw [if_pos ⟨rfl, rfl, rfl⟩, if_pos ⟨rfl, rfl, rfl⟩]
    exact hv
  · rw [if_neg (by omega), if_neg (fun z => q z.2)]
    exact h5 j hj y hy
theorem Wf.pt {A : Ab} {ns nb T b c x w : Nat} (h : Wf A ns nb T) (hb : b < nb) (hc : c < 3) (hx : x < A 6 b 2) (hw : w ≤ 101) (hp : ptsA (ptU (A 12 (3 * b + c)) x w) (A 6 b 2) ≤ 8) : Wf (aU A 12 (3 * b + c) x w) ns nb T := by
  obtain ⟨h1, h2, h3, h4, h5, h6, h7, ⟨c1, c2, c3⟩, h9, h10⟩ := h
  refine ⟨h1, h2, h3, h4, h5, h6, h7, ⟨fun k y => ?_, fun k hk y => ?_, fun j hj d hd => ?_⟩, h9, h10⟩
  · rw [aU_eq]
    split
    · exact hw
    · exact c1 k y
  · rw [aU_i (by omega)]
    exact c2 k hk y
  · by_cases q : 3 * j + d = 3 * b + c
    · obtain ⟨rfl, rfl⟩ : j = b ∧ d = c := by omega
      refine ⟨fun y hy => ?_, ?_⟩
      · have hy : A 6 j 2 ≤ y := hy
        rw [aU_f (by omega)]
        exact (c3 j hj d hd).1 y hy
      · rw [pt_row]
        exact hp
    · refine ⟨fun y hy => ?_, ?_⟩
      · rw [aU_i q]
        exact (c3 j hj d hd).1 y hy
      · rw [pt_row2 _ _ _ q]
        exact (c3 j hj d hd).2
