/-! WHAT A TICK LEAVES: turns that are wound, notes, the order of the songs -/
theorem sm_U (A : Ab) (k i f v : Nat) {n : Nat} (hi : i < n) : fb_sm (fun j => aU A k i f v k j f) n + A k i f = fb_sm (fun j => A k j f) n + v := by
  have h := fb_sm_upd (fun j => A k j f) v hi
  have e : fb_sm (fun j => aU A k i f v k j f) n = fb_sm (fun j => if j = i then v else (fun j => A k j f) j) n := fb_sm_cong fun j _ => by
    rw [aU_eq]
    by_cases q : j = i
    · rw [if_pos ⟨rfl, q, rfl⟩, if_pos q]
    · rw [if_neg (fun z => q z.2.1), if_neg q]
  rw [e]
  exact h
theorem sm_O {A : Ab} {k i f v k' f' : Nat} (h : ¬ (k' = k ∧ f' = f)) (n : Nat) : fb_sm (fun j => aU A k i f v k' j f') n = fb_sm (fun j => A k' j f') n :=
  fb_sm_cong fun j _ => by rw [aU_eq, if_neg (fun z => h ⟨z.1, z.2.2⟩)]
theorem sm_c {A A' : Ab} {k f : Nat} (n : Nat) (h : ∀ j, A' k j f = A k j f) : fb_sm (fun j => A' k j f) n = fb_sm (fun j => A k j f) n := fb_sm_cong fun j _ => h j
def hs (A : Ab) (ns : Nat) : Nat := fb_sm (fun i => A 5 i 1) ns
def ss (A : Ab) (ns : Nat) : Nat := fb_sm (fun i => A 5 i 2) ns
def os (A : Ab) (nb : Nat) : Nat := fb_sm (fun b => A 6 b 12) nb
/-- what was wound is held, gone, or spent on notes -/
def Mi (ns nb w : Nat) (A : Ab) : Prop := hs A ns + ss A ns ≤ w ∧ w ≤ hs A ns + ss A ns + 10 * A 3 0 2 ∧ os A nb = A 3 0 2 ∧ A 3 0 1 = min 250 (A 3 0 2)
/-- the note j is not behind tick t, spring s, bird b -/
def kl (A : Ab) (j t s b : Nat) : Prop := A 4 0 (4 * j) < t ∨ (A 4 0 (4 * j) = t ∧ (A 6 (A 4 0 (4 * j + 1)) 0 < s ∨ (A 6 (A 4 0 (4 * j + 1)) 0 = s ∧ A 4 0 (4 * j + 1) ≤ b)))
def So (A : Ab) (t s b : Nat) : Prop := (∀ j, j + 1 < A 3 0 1 → kl A j (A 4 0 (4 * (j + 1))) (A 6 (A 4 0 (4 * (j + 1) + 1)) 0) (A 4 0 (4 * (j + 1) + 1))) ∧ ∀ j, j < A 3 0 1 → kl A j t s b
theorem kl.up {A : Ab} {j t s b t' s' b' : Nat} (h : kl A j t s b) (h2 : t < t' ∨ (t = t' ∧ (s < s' ∨ (s = s' ∧ b ≤ b')))) : kl A j t' s' b' := by
  unfold kl at *
  omega
theorem So.up {A : Ab} {t s b t' s' b' : Nat} (h : So A t s b) (h2 : t < t' ∨ (t = t' ∧ (s < s' ∨ (s = s' ∧ b ≤ b')))) : So A t' s' b' := ⟨h.1, fun j hj => (h.2 j hj).up h2⟩
theorem kl.eq {A A' : Ab} {j t s b : Nat} (h4 : A' 4 0 (4 * j) = A 4 0 (4 * j)) (h5 : A' 4 0 (4 * j + 1) = A 4 0 (4 * j + 1)) (h6 : ∀ i, A' 6 i 0 = A 6 i 0) : kl A' j t s b ↔ kl A j t s b := by
  unfold kl
  rw [h4, h5, h6]
theorem So.eq {A A' : Ab} {t s b : Nat} (h : So A t s b) (h3 : A' 3 0 1 = A 3 0 1) (h4 : ∀ j, A' 4 0 j = A 4 0 j) (h6 : ∀ i, A' 6 i 0 = A 6 i 0) : So A' t s b := by
  refine ⟨fun j hj => ?_, fun j hj => ?_⟩
  · rw [h3] at hj
    rw [h4, h4, h6]
    exact (kl.eq (h4 _) (h4 _) h6).mpr (h.1 j hj)
  · rw [h3] at hj
    exact (kl.eq (h4 _) (h4 _) h6).mpr (h.2 j hj)
/-- what holds inside a tick -/
def Tn (ns nb w t K0 cap s b : Nat) (A : Ab) : Prop := A 0 0 6 = t ∧ Mi ns nb w A ∧ So A t s b ∧ (∀ j, K0 ≤ j → j < A 3 0 1 → A 4 0 (4 * j) = t) ∧ A 3 0 2 ≤ cap
theorem Tn.up {ns nb w t K0 cap s b cap' s' b' : Nat} {A : Ab} (h : Tn ns nb w t K0 cap s b A) (hc : cap ≤ cap') (h2 : s < s' ∨ (s = s' ∧ b ≤ b')) : Tn ns nb w t K0 cap' s' b' A := ⟨h.1, h.2.1, h.2.2.1.up (Or.inr ⟨rfl, h2⟩), h.2.2.2.1, Nat.le_trans h.2.2.2.2 hc⟩
theorem Tn.eq {ns nb w t K0 cap s b : Nat} {A A' : Ab} (h : Tn ns nb w t K0 cap s b A) (h0 : A' 0 0 6 = A 0 0 6) (hm : Mi ns nb w A') (h3 : A' 3 0 1 = A 3 0 1) (h32 : A' 3 0 2 = A 3 0 2) (h4 : ∀ j, A' 4 0 j = A 4 0 j) (h6 : ∀ i, A' 6 i 0 = A 6 i 0) : Tn ns nb w t K0 cap s b A' :=
  ⟨h0.trans h.1, hm, h.2.2.1.eq h3 h4 h6, fun j h1 h2 => by rw [h4]; exact h.2.2.2.1 j h1 (by rw [← h3]; exact h2), by rw [h32]; exact h.2.2.2.2⟩
theorem hr_4 (A : Ab) (b l : Nat) (hk : A 3 0 1 < 250) : hrA A b l 4 0 (4 * A 3 0 1) = A 0 0 6 ∧ hrA A b l 4 0 (4 * A 3 0 1 + 1) = b := by
  unfold hrA
  rw [if_pos hk]
  constructor <;> simp [aU_eq]
theorem Tn.note {ns nb w t K0 cap s b l : Nat} {A : Ab} (h : Tn ns nb w t K0 cap s b A) (hb : b < nb) (hs9 : A 6 b 0 = s) (hsn : s < ns) (hK : K0 ≤ A 3 0 1) : Tn ns nb w t K0 (cap + 1) s b (noteA A b l) ∧ K0 ≤ noteA A b l 3 0 1 ∧ ∀ i, i ≠ s → noteA A b l 5 i 1 = A 5 i 1 := by
  obtain ⟨h0, ⟨m1, m2, m3, m4⟩, ⟨o1, o2⟩, hk, hc⟩ := h
  obtain ⟨B, eB⟩ : ∃ B, B = aU (payA A (A 6 b 0)) 6 b 12 (A 6 b 12 + 1) := ⟨_, rfl⟩
  obtain ⟨k1, k2, k3, k4⟩ := hrA_k B b l
  have eN : noteA A b l = hrA B b l := by rw [eB]; rfl
  have b3 : ∀ f, B 3 0 f = A 3 0 f := fun f => by rw [eB, aU_k (by decide)]; exact aU_k (by decide)
  have b4 : ∀ j, B 4 0 j = A 4 0 j := fun j => by rw [eB, aU_k (by decide)]; exact aU_k (by decide)
  have b0 : B 0 0 6 = A 0 0 6 := by rw [eB, aU_k (by decide)]; exact aU_k (by decide)
  have b60 : ∀ i, B 6 i 0 = A 6 i 0 := fun i => by rw [eB, aU_f (by decide)]; exact aU_k (by decide)
  have b51 : ∀ i, B 5 i 1 = aU A 5 s 1 (A 5 s 1 - min 10 (A 5 s 1)) 5 i 1 := fun i => by rw [eB, aU_k (by decide), hs9]; rfl
  have b52 : ∀ i, B 5 i 2 = A 5 i 2 := fun i => by rw [eB, aU_k (by decide)]; exact aU_f (by decide)
  have b612 : ∀ i, B 6 i 12 = aU A 6 b 12 (A 6 b 12 + 1) 6 i 12 := fun i => by
    rw [eB, aU_eq, aU_eq]
    by_cases q : i = b
    · rw [if_pos ⟨rfl, q, rfl⟩, if_pos ⟨rfl, q, rfl⟩]
    · rw [if_neg (fun z => q z.2.1), if_neg (fun z => q z.2.1)]
      exact aU_k (by decide)
  rw [eN]
  have e1 : hs (hrA B b l) ns + A 5 s 1 = hs A ns + (A 5 s 1 - min 10 (A 5 s 1)) := by
    have e : hs (hrA B b l) ns = fb_sm (fun j => aU A 5 s 1 (A 5 s 1 - min 10 (A 5 s 1)) 5 j 1) ns := fb_sm_cong fun j _ => by rw [k1 5 j 1 (by decide) (by decide), b51]
    rw [e]
    exact sm_U A 5 s 1 _ hsn
  have e2 : ss (hrA B b l) ns = ss A ns := fb_sm_cong fun j _ => by rw [k1 5 j 2 (by decide) (by decide), b52]
  have e3 : os (hrA B b l) nb + A 6 b 12 = os A nb + (A 6 b 12 + 1) := by
    have e : os (hrA B b l) nb = fb_sm (fun j => aU A 6 b 12 (A 6 b 12 + 1) 6 j 12) nb := fb_sm_cong fun j _ => by rw [k1 6 j 12 (by decide) (by decide), b612]
    rw [e]
    exact sm_U A 6 b 12 _ hb
  have n2 : hrA B b l 3 0 2 = A 3 0 2 + 1 := by rw [k2, b3]
  have n1 : hrA B b l 3 0 1 = if A 3 0 1 < 250 then A 3 0 1 + 1 else A 3 0 1 := by rw [k3, b3]
  have q6 : ∀ i, hrA B b l 6 i 0 = A 6 i 0 := fun i => by rw [k1 6 i 0 (by decide) (by decide), b60]
  have q4 : ∀ j, j < 4 * A 3 0 1 → hrA B b l 4 0 j = A 4 0 j := fun j hj => by rw [k4 j (by rw [b3]; exact hj), b4]
  refine ⟨⟨by rw [k1 0 0 6 (by decide) (by decide), b0, h0], ⟨by omega, by omega, by omega, by rw [n1, n2]; split <;> omega⟩, ?_, ?_, by omega⟩, by rw [n1]; split <;> omega, fun i hi => by rw [k1 5 i 1 (by decide) (by decide), b51, aU_i hi]⟩
  · by_cases h250 : A 3 0 1 < 250
    · rw [if_pos h250] at n1
      obtain ⟨r1, r2⟩ := hr_4 B b l (by rw [b3]; exact h250)
      rw [b3, b0] at r1
      rw [b3] at r2
      have last : kl (hrA B b l) (A 3 0 1) t s b := by
        unfold kl
        rw [r1, r2, q6, hs9, h0]
        exact Or.inr ⟨rfl, Or.inr ⟨rfl, Nat.le_refl _⟩⟩
      have old : ∀ j t' s' b', j < A 3 0 1 → (kl (hrA B b l) j t' s' b' ↔ kl A j t' s' b') := fun j t' s' b' hj => kl.eq (q4 _ (by omega)) (q4 _ (by omega)) q6
      refine ⟨fun j hj => ?_, fun j hj => ?_⟩
      · rw [n1] at hj
        by_cases hj2 : j + 1 < A 3 0 1
        · rw [q4 (4 * (j + 1)) (by omega), q4 (4 * (j + 1) + 1) (by omega), q6]
          exact (old j _ _ _ (by omega)).mpr (o1 j hj2)
        · have : j + 1 = A 3 0 1 := by omega
          rw [this, r1, r2, q6, hs9, h0]
          exact (old j _ _ _ (by omega)).mpr (o2 j (by omega))
      · rw [n1] at hj
        by_cases hj2 : j < A 3 0 1
        · exact (old j _ _ _ hj2).mpr (o2 j hj2)
        · rw [show j = A 3 0 1 by omega]
          exact last
    · rw [if_neg h250] at n1
      have old : ∀ j t' s' b', j < A 3 0 1 → (kl (hrA B b l) j t' s' b' ↔ kl A j t' s' b') := fun j t' s' b' hj => kl.eq (q4 _ (by omega)) (q4 _ (by omega)) q6
      refine ⟨fun j hj => ?_, fun j hj => ?_⟩
      · rw [n1] at hj
        rw [q4 (4 * (j + 1)) (by omega), q4 (4 * (j + 1) + 1) (by omega), q6]
        exact (old j _ _ _ (by omega)).mpr (o1 j hj)
      · rw [n1] at hj
        exact (old j _ _ _ hj).mpr (o2 j hj)
  · intro j h1 h2
    by_cases h250 : A 3 0 1 < 250
    · rw [n1, if_pos h250] at h2
      by_cases hj2 : j < A 3 0 1
      · rw [q4 _ (by omega)]
        exact hk j h1 hj2
      · obtain ⟨r1, -⟩ := hr_4 B b l (by rw [b3]; exact h250)
        rw [b3, b0] at r1
        rw [show j = A 3 0 1 by omega, r1, h0]
    · rw [n1, if_neg h250] at h2
      rw [q4 _ (by omega)]
      exact hk j h1 h2
theorem Tn.lev {ns nb w t K0 s b v : Nat} (hb : b < nb) (hsn : s < ns) : ∀ (m l cap : Nat) (A : Ab), A 6 b 0 = s → K0 ≤ A 3 0 1 → Tn ns nb w t K0 cap s b A → Tn ns nb w t K0 (cap + m) s b (levA b v m l A) ∧ K0 ≤ levA b v m l A 3 0 1 ∧ (∀ i, i ≠ s → levA b v m l A 5 i 1 = A 5 i 1) ∧ ∀ i, levA b v m l A 6 i 0 = A 6 i 0 := by
  intro m
  induction m with
  | zero => intro l cap A hs9 hK h; exact ⟨h, hK, fun _ _ => rfl, fun _ => rfl⟩
  | succ m ih =>
    intro l cap A hs9 hK h
    rw [levA]
    by_cases q : v / 2 ^ l % 2 = 1
    · rw [if_pos q]
      obtain ⟨n1, n2, n3⟩ := h.note (l := l) hb hs9 hsn hK
      have n6 : ∀ i, noteA A b l 6 i 0 = A 6 i 0 := fun i => by
        unfold noteA
        rw [(hrA_k _ b l).1 6 i 0 (by decide) (by decide), aU_f (by decide)]
        exact aU_k (by decide)
      obtain ⟨i1, i2, i3, i4⟩ := ih (l + 1) (cap + 1) _ (by rw [n6]; exact hs9) n2 n1
      exact ⟨by rw [show cap + (m + 1) = cap + 1 + m by omega]; exact i1, i2, fun i hi => (i3 i hi).trans (n3 i hi), fun i => (i4 i).trans (n6 i)⟩
    · rw [if_neg q]
      obtain ⟨i1, i2, i3, i4⟩ := ih (l + 1) cap A hs9 hK h
      exact ⟨i1.up (by omega) (Or.inr ⟨rfl, Nat.le_refl _⟩), i2, i3, i4⟩
theorem Tn.bar {ns nb w t K0 s b hi : Nat} (hb : b < nb) (hsn : s < ns) : ∀ (m cap : Nat) (A : Ab), A 6 b 0 = s → K0 ≤ A 3 0 1 → Tn ns nb w t K0 cap s b A → Tn ns nb w t K0 (cap + 6 * m) s b (barA b hi m A) ∧ K0 ≤ barA b hi m A 3 0 1 ∧ (∀ i, i ≠ s → barA b hi m A 5 i 1 = A 5 i 1) ∧ ∀ i, barA b hi m A 6 i 0 = A 6 i 0 := by
  intro m
  induction m with
  | zero => intro cap A hs9 hK h; exact ⟨h, hK, fun _ _ => rfl, fun _ => rfl⟩
  | succ m ih =>
    intro cap A hs9 hK h
    rw [barA]
    obtain ⟨n1, n2, n3, n4⟩ := Tn.lev (v := A 7 b ((hi - m) % A 6 b 2)) hb hsn 6 0 cap A hs9 hK h
    obtain ⟨i1, i2, i3, i4⟩ := ih (cap + 6) _ (by rw [n4]; exact hs9) n2 n1
    exact ⟨by rw [show cap + 6 * (m + 1) = cap + 6 + 6 * m by omega]; exact i1, i2, fun i hi => (i3 i hi).trans (n3 i hi), fun i => (i4 i).trans (n4 i)⟩
theorem Tn.turn {ns nb w t K0 s b cap : Nat} {A : Ab} (hb : b < nb) (hsn : s < ns) (hs9 : A 6 b 0 = s) (hn : A 6 b 2 ≤ 96) (hK : K0 ≤ A 3 0 1) (h : Tn ns nb w t K0 cap s b A) : Tn ns nb w t K0 (cap + 576) s b (turnA A b) ∧ K0 ≤ turnA A b 3 0 1 ∧ (∀ i, i ≠ s → turnA A b 5 i 1 = A 5 i 1) ∧ ∀ i, turnA A b 6 i 0 = A 6 i 0 := by
  have h2 : Tn ns nb w t K0 cap s b (aU A 6 b 11 (comeA A b)) := by
    refine h.eq (aU_k (by decide)) ?_ (aU_k (by decide)) (aU_k (by decide)) (fun j => aU_k (by decide)) (fun i => aU_f (by decide))
    obtain ⟨m1, m2, m3, m4⟩ := h.2.1
    have e1 : hs (aU A 6 b 11 (comeA A b)) ns = hs A ns := sm_O (by decide) ns
    have e2 : ss (aU A 6 b 11 (comeA A b)) ns = ss A ns := sm_O (by decide) ns
    have e3 : os (aU A 6 b 11 (comeA A b)) nb = os A nb := sm_O (by decide) nb
    have e4 : ∀ f, aU A 6 b 11 (comeA A b) 3 0 f = A 3 0 f := fun f => aU_k (by decide)
    unfold Mi
    rw [e1, e2, e3, e4, e4]
    exact ⟨m1, m2, m3, m4⟩
  obtain ⟨i1, i2, i3, i4⟩ := Tn.bar (hi := comeA A b) hb hsn (min (comeA A b - A 6 b 11) (A 6 b 2)) cap _ ((aU_f (by decide)).trans hs9) (by rw [aU_k (by decide)]; exact hK) h2
  refine ⟨i1.up (by omega) (Or.inr ⟨rfl, Nat.le_refl _⟩), i2, fun i hi => (i3 i hi).trans (aU_k (by decide)), fun i => (i4 i).trans (aU_f (by decide))⟩
theorem come_kpg {A A' : Ab} (h : kpg A A') (b : Nat) : comeA A' b = comeA A b := by
  unfold comeA
  rw [h.1 6 b 0 (by decide) (by decide) (by omega) (by omega), h.1 6 b 10 (by decide) (by decide) (by omega) (by omega), h.1 6 b 3 (by decide) (by decide) (by omega) (by omega), h.1 6 b 2 (by decide) (by decide) (by omega) (by omega), h.1 6 b 4 (by decide) (by decide) (by omega) (by omega), h.1 5 _ 2 (by decide) (by decide) (by omega) (by omega)]
theorem turn_11 {A : Ab} {ns nb T b : Nat} (h : Wf A ns nb T) (hb : b < nb) : (∀ i, i ≠ b → turnA A b 6 i 11 = A 6 i 11) ∧ turnA A b 6 b 11 = comeA A b := by
  unfold turnA
  obtain ⟨-, n2⟩ := bar_ok (hi := comeA A b) hb (min (comeA A b - A 6 b 11) (A 6 b 2)) _ (h.gn (b := b) (Nat.le_refl (comeA A b)))
  refine ⟨fun i hi => ?_, ?_⟩
  · rw [n2.1 6 i 11 (by decide) (by decide) (by omega) (by omega), aU_i hi]
  · rw [n2.1 6 b 11 (by decide) (by decide) (by omega) (by omega), aU_same]
/-- all birds of a spring -/
theorem Tn.birds {ns nb w t K0 s T : Nat} (hsn : s < ns) : ∀ (m b cap : Nat) (A : Ab), b + m = nb → Wf A ns nb T → (∀ i, i < nb → A 6 i 9 = 1) → (∀ i, i < nb → (i < b ∨ A 6 i 0 ≠ s) → A 6 i 11 = comeA A i) → K0 ≤ A 3 0 1 → Tn ns nb w t K0 cap s b A →
    Tn ns nb w t K0 (cap + 576 * m) s nb (birdsA s m b A) ∧ K0 ≤ birdsA s m b A 3 0 1 ∧ (∀ i, i ≠ s → birdsA s m b A 5 i 1 = A 5 i 1) ∧ ∀ i, i < nb → birdsA s m b A 6 i 11 = comeA (birdsA s m b A) i := by
  intro m
  induction m with
  | zero =>
    intro b cap A hb hW h9 hg hK h
    exact ⟨h.up (Nat.le_refl _) (Or.inr ⟨rfl, by omega⟩), hK, fun _ _ => rfl, fun i hi => hg i hi (Or.inl (by omega))⟩
  | succ m ih =>
    intro b cap A hb hW h9 hg hK h
    rw [birdsA]
    have hbn : b < nb := by omega
    by_cases q : drA A s b = true
    · rw [if_pos q]
      have q2 : A 6 b 9 = 1 ∧ A 6 b 0 = s := of_decide_eq_true q
      obtain ⟨n1, n2, n3, n4⟩ := Tn.turn hbn hsn q2.2 (hW.2.2.2.2.1 b hbn).2.2.2.1 hK h
      obtain ⟨w1, w2⟩ := turn_ok hW hbn
      obtain ⟨g1, g2⟩ := turn_11 hW hbn
      obtain ⟨i1, i2, i3, i4⟩ := ih (b + 1) (cap + 576) _ (by omega) w1 (fun i hi => by rw [w2.1 6 i 9 (by decide) (by decide) (by omega) (by omega)]; exact h9 i hi) (fun i hi h2 => by
        rw [come_kpg w2]
        by_cases hib : i = b
        · rw [hib]; exact g2
        · rw [g1 i hib]
          refine hg i hi ?_
          rcases h2 with h2 | h2
          · exact Or.inl (by omega)
          · rw [n4] at h2
            exact Or.inr h2) n2 (n1.up (Nat.le_refl _) (Or.inr ⟨rfl, by omega⟩))
      exact ⟨i1.up (by omega) (Or.inr ⟨rfl, Nat.le_refl _⟩), i2, fun i hi => (i3 i hi).trans (n3 i hi), i4⟩
    · rw [if_neg q]
      have hne : A 6 b 0 ≠ s := fun z => q (decide_eq_true ⟨h9 b hbn, z⟩)
      obtain ⟨i1, i2, i3, i4⟩ := ih (b + 1) cap A (by omega) hW h9 (fun i hi h2 => by
        refine hg i hi ?_
        by_cases hib : i = b
        · rw [hib]; exact Or.inr hne
        · rcases h2 with h2 | h2
          · exact Or.inl (by omega)
          · exact Or.inr h2) hK (h.up (Nat.le_refl _) (Or.inr ⟨rfl, by omega⟩))
      exact ⟨i1.up (by omega) (Or.inr ⟨rfl, Nat.le_refl _⟩), i2, i3, i4⟩
/-- what the springs that went have done, against the state G at the tick's beginning -/
def Sp (ns s : Nat) (G A : Ab) : Prop := ∀ i, i < ns → (i < s → A 5 i 3 ≤ 400 ∧ A 5 i 2 = G 5 i 2 + A 5 i 3 ∧ (A 5 i 3 = 0 → A 5 i 1 = 0)) ∧ (s ≤ i → A 5 i 2 = G 5 i 2)
theorem Tn.shaft {ns nb w t K0 s cap T : Nat} {G A : Ab} (hsn : s < ns) (hW : Wf A ns nb T) (hs2 : A 5 s 2 + 400 ≤ 400 * A 0 0 6) (h4 : ∀ i, i < ns → A 5 i 4 = 0) (h9 : ∀ i, i < nb → A 6 i 9 = 1) (hg : ∀ i, i < nb → A 6 i 11 = comeA A i) (hK : K0 ≤ A 3 0 1) (hp : Sp ns s G A) (h : Tn ns nb w t K0 cap s 0 A) :
    Tn ns nb w t K0 (cap + 576 * nb) s nb (shaftA A nb s) ∧ K0 ≤ shaftA A nb s 3 0 1 ∧ (∀ i, i < nb → shaftA A nb s 6 i 11 = comeA (shaftA A nb s) i) ∧ Sp ns (s + 1) G (shaftA A nb s) := by
  unfold shaftA
  by_cases q : A 5 s 4 = 0 ∧ A 5 s 1 ≠ 0
  · rw [if_pos q]
    obtain ⟨v, ev⟩ : ∃ v, v = speedA A nb s := ⟨_, rfl⟩
    obtain ⟨v1, v2, v3⟩ := speed_le A nb s
    rw [← ev] at v1 v2 v3 ⊢
    have v3 := v3 q.2
    obtain ⟨m1, m2⟩ := move_ok hW hsn v1 hs2
    have f1 : ∀ i, moveA A s v 5 i 1 = aU A 5 s 1 (A 5 s 1 - v) 5 i 1 := fun i => by
      unfold moveA
      by_cases z : i = s
      · rw [z, aU_same, aU_same]
      · rw [aU_i z, aU_i z, aU_i z, aU_i z]
    have f2 : ∀ i, moveA A s v 5 i 2 = aU A 5 s 2 (A 5 s 2 + v) 5 i 2 := fun i => by
      unfold moveA
      rw [aU_f (by decide)]
      by_cases z : i = s
      · rw [z, aU_same, aU_same]
      · rw [aU_i z, aU_i z, aU_i z]
    have f3 : ∀ i, moveA A s v 5 i 3 = aU A 5 s 3 v 5 i 3 := fun i => by
      unfold moveA
      rw [aU_f (by decide), aU_f (by decide)]
    have fo : ∀ k i f, k ≠ 5 → moveA A s v k i f = A k i f := fun k i f hk => by
      unfold moveA
      rw [aU_k hk, aU_k hk, aU_k hk]
    have hm : Tn ns nb w t K0 cap s 0 (moveA A s v) := by
      refine h.eq (fo 0 0 6 (by decide)) ?_ (fo 3 0 1 (by decide)) (fo 3 0 2 (by decide)) (fun j => fo 4 0 j (by decide)) (fun i => fo 6 i 0 (by decide))
      obtain ⟨g1, g2, g3, g4⟩ := h.2.1
      have e1 : hs (moveA A s v) ns + A 5 s 1 = hs A ns + (A 5 s 1 - v) := by
        have e : hs (moveA A s v) ns = fb_sm (fun j => aU A 5 s 1 (A 5 s 1 - v) 5 j 1) ns := fb_sm_cong fun j _ => f1 j
        rw [e]
        exact sm_U A 5 s 1 _ hsn
      have e2 : ss (moveA A s v) ns + A 5 s 2 = ss A ns + (A 5 s 2 + v) := by
        have e : ss (moveA A s v) ns = fb_sm (fun j => aU A 5 s 2 (A 5 s 2 + v) 5 j 2) ns := fb_sm_cong fun j _ => f2 j
        rw [e]
        exact sm_U A 5 s 2 _ hsn
      have e3 : os (moveA A s v) nb = os A nb := fb_sm_cong fun j _ => fo 6 j 12 (by decide)
      unfold Mi
      rw [e3, fo 3 0 1 (by decide), fo 3 0 2 (by decide)]
      exact ⟨by omega, by omega, g3, g4⟩
    have hcome : ∀ i, A 6 i 0 ≠ s → comeA (moveA A s v) i = comeA A i := fun i hi => by
      unfold comeA
      rw [fo 6 i 0 (by decide), fo 6 i 10 (by decide), fo 6 i 3 (by decide), fo 6 i 2 (by decide), fo 6 i 4 (by decide), f2, aU_i hi]
    obtain ⟨i1, i2, i3, i4⟩ := Tn.birds (K0 := K0) hsn nb 0 cap _ (by omega) m1 (fun i hi => by rw [fo 6 i 9 (by decide)]; exact h9 i hi) (fun i hi h2 => by
      rcases h2 with h2 | h2
      · omega
      · rw [fo 6 i 0 (by decide)] at h2
        rw [fo 6 i 11 (by decide), hcome i h2]
        exact hg i hi) (by rw [fo 3 0 1 (by decide)]; exact hK) hm
    obtain ⟨-, k2⟩ := birds_ok (s := s) nb 0 _ (by omega) m1
    refine ⟨i1, i2, i4, fun i hi => ⟨fun h1 => ?_, fun h1 => ?_⟩⟩
    · have k3 : birdsA s nb 0 (moveA A s v) 5 i 3 = moveA A s v 5 i 3 := k2.1 5 i 3 (by decide) (by decide) (by omega) (by omega)
      have k22 : birdsA s nb 0 (moveA A s v) 5 i 2 = moveA A s v 5 i 2 := k2.1 5 i 2 (by decide) (by decide) (by omega) (by omega)
      rw [k3, k22, f3, f2]
      by_cases z : i = s
      · rw [z, aU_same, aU_same, (hp s hsn).2 (Nat.le_refl _)]
        exact ⟨v1, rfl, fun y => absurd y (by omega)⟩
      · rw [aU_i z, aU_i z, i3 i z, f1, aU_i z]
        exact (hp i hi).1 (by omega)
    · have k22 : birdsA s nb 0 (moveA A s v) 5 i 2 = moveA A s v 5 i 2 := k2.1 5 i 2 (by decide) (by decide) (by omega) (by omega)
      rw [k22, f2, aU_i (by omega)]
      exact (hp i hi).2 (by omega)
  · rw [if_neg q]
    have hz : A 5 s 1 = 0 := by
      have := h4 s hsn
      omega
    have hm : Tn ns nb w t K0 cap s 0 (aU A 5 s 3 0) := by
      refine h.eq (aU_k (by decide)) ?_ (aU_k (by decide)) (aU_k (by decide)) (fun j => aU_k (by decide)) (fun i => aU_k (by decide))
      obtain ⟨g1, g2, g3, g4⟩ := h.2.1
      have e1 : hs (aU A 5 s 3 0) ns = hs A ns := sm_O (by decide) ns
      have e2 : ss (aU A 5 s 3 0) ns = ss A ns := sm_O (by decide) ns
      have e3 : os (aU A 5 s 3 0) nb = os A nb := sm_O (by decide) nb
      have e4 : ∀ f, aU A 5 s 3 0 3 0 f = A 3 0 f := fun f => aU_k (by decide)
      unfold Mi
      rw [e1, e2, e3, e4, e4]
      exact ⟨g1, g2, g3, g4⟩
    have ec : ∀ i, comeA (aU A 5 s 3 0) i = comeA A i := fun i => by
      unfold comeA
      rw [aU_f (by decide : (2 : Nat) ≠ 3)]
      rfl
    refine ⟨hm.up (by omega) (Or.inr ⟨rfl, Nat.zero_le _⟩), by rw [aU_k (by decide)]; exact hK, fun i hi => by rw [ec, aU_k (by decide)]; exact hg i hi, fun i hi => ⟨fun h1 => ?_, fun h1 => ?_⟩⟩
    · have a2 : aU A 5 s 3 0 5 i 2 = A 5 i 2 := aU_f (by decide)
      have a1 : aU A 5 s 3 0 5 i 1 = A 5 i 1 := aU_f (by decide)
      rw [a1, a2]
      by_cases z : i = s
      · rw [z, aU_same, (hp s hsn).2 (Nat.le_refl _), hz]
        exact ⟨by decide, rfl, fun _ => rfl⟩
      · rw [aU_i z]
        exact (hp i hi).1 (by omega)
    · rw [aU_f (by decide)]
      exact (hp i hi).2 (by omega)
theorem Tn.springs {ns nb w t K0 T : Nat} {G : Ab} : ∀ (m s cap : Nat) (A : Ab), s + m = ns → Wf A ns nb T → (∀ i, s ≤ i → i < ns → A 5 i 2 + 400 ≤ 400 * A 0 0 6) → (∀ i, i < ns → A 5 i 4 = 0) → (∀ i, i < nb → A 6 i 9 = 1) → (∀ i, i < nb → A 6 i 11 = comeA A i) → K0 ≤ A 3 0 1 → Sp ns s G A → Tn ns nb w t K0 cap s 0 A →
    Tn ns nb w t K0 (cap + 576 * nb * m) ns nb (springsA nb m s A) ∧ K0 ≤ springsA nb m s A 3 0 1 ∧ (∀ i, i < nb → springsA nb m s A 6 i 11 = comeA (springsA nb m s A) i) ∧ Sp ns ns G (springsA nb m s A) := by
  intro m
  induction m with
  | zero =>
    intro s cap A hm hW hs2 h4 h9 hg hK hp h
    have : s = ns := by omega
    subst this
    exact ⟨h.up (Nat.le_refl _) (Or.inr ⟨rfl, Nat.zero_le _⟩), hK, hg, hp⟩
  | succ m ih =>
    intro s cap A hm hW hs2 h4 h9 hg hK hp h
    rw [springsA]
    have hsn : s < ns := by omega
    obtain ⟨n1, n2⟩ := shaft_ok hW hsn (hs2 s (Nat.le_refl _) hsn)
    obtain ⟨a1, a2, a3, a4⟩ := Tn.shaft hsn hW (hs2 s (Nat.le_refl _) hsn) h4 h9 hg hK hp h
    obtain ⟨i1, i2, i3, i4⟩ := ih (s + 1) (cap + 576 * nb) _ (by omega) n1 (fun i h1 h2 => by
      rw [n2.1 5 i 2 (by decide) (by decide) (by omega) (by omega), n2.1 0 0 6 (by decide) (by decide) (by omega) (by omega)]
      exact hs2 i (by omega) h2) (fun i hi => by rw [n2.1 5 i 4 (by decide) (by decide) (by omega) (by omega)]; exact h4 i hi) (fun i hi => by rw [n2.1 6 i 9 (by decide) (by decide) (by omega) (by omega)]; exact h9 i hi) a3 a2 a4 (a1.up (Nat.le_refl _) (Or.inl (by omega)))
    refine ⟨?_, i2, i3, i4⟩
    rw [Nat.mul_succ, show cap + (576 * nb * m + 576 * nb) = cap + 576 * nb + 576 * nb * m by omega]
    exact i1
/-- coupled springs: the sum stays -/
theorem share_hs {A : Ab} {ns nb T a b : Nat} (hW : Wf A ns nb T) (ha : a < ns) (hb : b < ns) (hab : a < b) : hs (shareA A a b) ns = hs A ns := by
  have key : ∀ x y, x + y = A 5 a 1 + A 5 b 1 → hs (aU (aU A 5 a 1 x) 5 b 1 y) ns = hs A ns := by
    intro x y hxy
    have e1 := sm_U (aU A 5 a 1 x) 5 b 1 y hb
    have e2 := sm_U A 5 a 1 x ha
    have e3 : aU A 5 a 1 x 5 b 1 = A 5 b 1 := aU_i (by omega)
    rw [e3] at e1
    unfold hs
    omega
  unfold shareA
  by_cases q : A 5 b 1 ≤ A 5 a 1
  · rw [if_pos q]
    exact key _ _ (by omega)
  · rw [if_neg q]
    exact key _ _ (by omega)
theorem shB_hs {ns nb T a : Nat} : ∀ (m b : Nat) (A : Ab), a < b → Wf A ns nb T → hs (shBA ns a m b A) ns = hs A ns := by
  intro m
  induction m with
  | zero => intro b A _ _; rfl
  | succ m ih =>
    intro b A hab hW
    rw [shBA]
    by_cases q : a < ns ∧ b < ns ∧ A 23 a b = 1
    · rw [if_pos q, ih (b + 1) _ (by omega) (share_ok hW q.1 q.2.1).1]
      exact share_hs hW q.1 q.2.1 hab
    · rw [if_neg q]
      exact ih (b + 1) A (by omega) hW
theorem shA_hs {ns nb T : Nat} : ∀ (m a : Nat) (A : Ab), Wf A ns nb T → hs (shAA ns m a A) ns = hs A ns := by
  intro m
  induction m with
  | zero => intro a A _; rfl
  | succ m ih =>
    intro a A hW
    rw [shAA, ih (a + 1) _ (shB_ok (a := a) (4 - (a + 1)) (a + 1) A hW).1]
    exact shB_hs (4 - (a + 1)) (a + 1) A (by omega) hW
/-- what holds between the ticks of the law -/
def Lw (ns nb w t : Nat) (A : Ab) : Prop := A 0 0 6 = t ∧ (∀ i, i < ns → A 5 i 4 = 0) ∧ (∀ i, i < nb → A 6 i 9 = 1 ∧ A 6 i 10 = 0 ∧ A 6 i 11 = comeA A i) ∧ Mi ns nb w A ∧ So A t ns nb ∧ A 3 0 2 ≤ 18432 * t
theorem Lw.tick {ns nb w t : Nat} {A : Ab} (h : Lw ns nb w t A) (hW : Wf A ns nb 1) (ht : t < 500) (h4 : ns ≤ 4) (h8 : nb ≤ 8) :
    Lw ns nb w (t + 1) (tickA ns nb A) ∧ Sp ns ns A (tickA ns nb A) ∧ (∀ j, A 3 0 1 ≤ j → j < tickA ns nb A 3 0 1 → tickA ns nb A 4 0 (4 * j) = t + 1) ∧ (∀ j, j < A 3 0 1 → tickA ns nb A 4 0 (4 * j) ≤ t) := by
  obtain ⟨l0, l4, l6, lm, lo, lc⟩ := h
  obtain ⟨n1, n2, n3⟩ := tick_in (ns := ns) hW (by omega)
  have hk := (tick_ok (ns := ns) (nb := nb) hW (by omega)).2.1
  have hWt := hW.tk (v := A 0 0 6 + 1) (by omega) (by omega)
  obtain ⟨-, so⟩ := shA_ok (ns := ns) 4 0 _ hWt
  have sh := shA_hs (ns := ns) 4 0 _ hWt
  obtain ⟨B, eB⟩ : ∃ B, B = shAA ns 4 0 (aU A 0 0 6 (A 0 0 6 + 1)) := ⟨_, rfl⟩
  have eT : tickA ns nb A = springsA nb ns 0 B := by rw [eB]; rfl
  rw [← eB] at n1 n2 n3 so sh
  have b : ∀ k i f, k ≠ 0 → ¬ (k = 5 ∧ f = 1) → B k i f = A k i f := fun k i f h0 h5 => (so k i f h5).trans (aU_k h0)
  have bh : hs B ns = hs A ns := sh.trans (sm_O (by decide) ns)
  have bs : ss B ns = ss A ns := fb_sm_cong fun j _ => b 5 j 2 (by decide) (by omega)
  have bo : os B nb = os A nb := fb_sm_cong fun j _ => b 6 j 12 (by decide) (by omega)
  have bc : ∀ i, comeA B i = comeA A i := fun i => by
    unfold comeA
    rw [b 6 i 0 (by decide) (by omega), b 6 i 10 (by decide) (by omega), b 6 i 3 (by decide) (by omega), b 6 i 2 (by decide) (by omega), b 6 i 4 (by decide) (by omega), b 5 _ 2 (by decide) (by omega)]
  have hT0 : Tn ns nb w (t + 1) (A 3 0 1) (18432 * t) 0 0 B := by
    refine ⟨by rw [n3, l0], ?_, ?_, fun j h1 h2 => ?_, by rw [b 3 0 2 (by decide) (by omega)]; exact lc⟩
    · unfold Mi
      rw [bh, bs, bo, b 3 0 2 (by decide) (by omega), b 3 0 1 (by decide) (by omega)]
      exact lm
    · exact (lo.up (t' := t + 1) (s' := 0) (b' := 0) (Or.inl (by omega))).eq (b 3 0 1 (by decide) (by omega)) (fun j => b 4 0 j (by decide) (by omega)) (fun i => b 6 i 0 (by decide) (by omega))
    · rw [b 3 0 1 (by decide) (by omega)] at h2
      omega
  obtain ⟨i1, i2, i3, i4⟩ := Tn.springs (G := A) ns 0 (18432 * t) B (by omega) n1 n2 (fun i hi => by rw [b 5 i 4 (by decide) (by omega)]; exact l4 i hi) (fun i hi => by rw [b 6 i 9 (by decide) (by omega)]; exact (l6 i hi).1) (fun i hi => by rw [b 6 i 11 (by decide) (by omega), bc]; exact (l6 i hi).2.2) (by rw [b 3 0 1 (by decide) (by omega)]; exact Nat.le_refl _) (fun i hi => ⟨fun z => absurd z (Nat.not_lt_zero _), fun _ => b 5 i 2 (by decide) (by omega)⟩) hT0
  rw [← eT] at i1 i2 i3 i4
  obtain ⟨j0, jm, jo, jk, jc⟩ := i1
  have hcap : 576 * nb * ns ≤ 18432 := by
    have a1 : 576 * nb ≤ 4608 := by omega
    have a2 : 576 * nb * ns ≤ 4608 * 4 := Nat.mul_le_mul a1 h4
    omega
  refine ⟨⟨j0, fun i hi => ?_, fun i hi => ⟨?_, ?_, i3 i hi⟩, jm, jo, by omega⟩, i4, jk, fun j hj => ?_⟩
  · rw [hk.1 5 i 4 (by decide) (by decide) (by decide) (by omega) (by omega)]
    exact l4 i hi
  · rw [hk.1 6 i 9 (by decide) (by decide) (by decide) (by omega) (by omega)]
    exact (l6 i hi).1
  · rw [hk.1 6 i 10 (by decide) (by decide) (by decide) (by omega) (by omega)]
    exact (l6 i hi).2.1
  · rw [hk.2.2.2 _ (by omega)]
    have := lo.2 j hj
    unfold kl at this
    omega
/-- a winding between ticks -/
theorem Lw.wind {ns nb w t i v : Nat} {A : Ab} (h : Lw ns nb w t A) (hi : i < ns) (hv : A 5 i 1 ≤ v) : Lw ns nb (w + (v - A 5 i 1)) t (aU A 5 i 1 v) := by
  obtain ⟨l0, l4, l6, ⟨m1, m2, m3, m4⟩, lo, lc⟩ := h
  have e1 := sm_U A 5 i 1 v hi
  have e2 : ss (aU A 5 i 1 v) ns = ss A ns := sm_O (by decide) ns
  have e3 : os (aU A 5 i 1 v) nb = os A nb := sm_O (by decide) nb
  have e4 : ∀ f, aU A 5 i 1 v 3 0 f = A 3 0 f := fun f => aU_k (by decide)
  have ec : ∀ j, comeA (aU A 5 i 1 v) j = comeA A j := fun j => by
    unfold comeA
    rw [aU_f (by decide : (2 : Nat) ≠ 1)]
    rfl
  refine ⟨l0, fun j hj => by rw [aU_f (by decide)]; exact l4 j hj, fun j hj => ⟨(l6 j hj).1, (l6 j hj).2.1, by rw [ec]; exact (l6 j hj).2.2⟩, ?_, lo.eq (e4 1) (fun j => aU_k (by decide)) (fun j => aU_k (by decide)), by rw [e4]; exact lc⟩
  unfold Mi
  rw [e2, e3, e4, e4]
  unfold hs at *
  exact ⟨by omega, by omega, m3, m4⟩
/-- the different notes of a tick -/
theorem ct_old {A : Ab} {t : Int32} : ∀ K, (∀ j, j < K → mtB A t j = false) → ctA A t K = 0 := by
  intro K
  induction K with
  | zero => intro _; rfl
  | succ K ih =>
    intro h
    rw [ctA, ih (fun j hj => h j (by omega)), h K (by omega)]
    rfl
theorem ct_step (A : Ab) (t : Int32) (K : Nat) : ∀ m, ctA A t K ≤ ctA A t (K + m) ∧ ctA A t (K + m) ≤ ctA A t K + m := by
  intro m
  induction m with
  | zero => exact ⟨Nat.le_refl _, Nat.le_refl _⟩
  | succ m ih =>
    rw [show K + (m + 1) = K + m + 1 by omega, ctA]
    split <;> omega
theorem sn_old {A : Ab} {t : Int32} : ∀ K v, (∀ j, j < K → mtB A t j = false) → snB A t K v = false := by
  intro K
  induction K with
  | zero => intro v _; rfl
  | succ K ih =>
    intro v h
    rw [snB, ih v (fun j hj => h j (by omega)), h K (by omega)]
    rfl
theorem ct_tick {A : Ab} {t K0 : Nat} (ht : t < 2 ^ 30) (hK : K0 ≤ A 3 0 1) (h1 : ∀ j, K0 ≤ j → j < A 3 0 1 → A 4 0 (4 * j) = t + 1) (h2 : ∀ j, j < K0 → A 4 0 (4 * j) ≤ t) : ctA A (nI (t + 1)) (A 3 0 1) ≤ A 3 0 1 - K0 ∧ (K0 < A 3 0 1 → 1 ≤ ctA A (nI (t + 1)) (A 3 0 1)) := by
  have ho : ∀ j, j < K0 → mtB A (nI (t + 1)) j = false := fun j hj => decide_eq_false (fun z => by
    have := h2 j hj
    have := (nI_eq (by omega) (by omega)).mp z
    omega)
  have e0 := ct_old K0 ho
  obtain ⟨s1, s2⟩ := ct_step A (nI (t + 1)) K0 (A 3 0 1 - K0)
  rw [show K0 + (A 3 0 1 - K0) = A 3 0 1 by omega] at s1 s2
  refine ⟨by omega, fun hlt => ?_⟩
  obtain ⟨r1, -⟩ := ct_step A (nI (t + 1)) (K0 + 1) (A 3 0 1 - (K0 + 1))
  rw [show K0 + 1 + (A 3 0 1 - (K0 + 1)) = A 3 0 1 by omega] at r1
  have e1 : ctA A (nI (t + 1)) (K0 + 1) = 1 := by
    rw [ctA, e0, sn_old K0 _ ho, show mtB A (nI (t + 1)) K0 = true from decide_eq_true (congrArg nI (h1 K0 (Nat.le_refl _) hlt))]
    rfl
  omega
