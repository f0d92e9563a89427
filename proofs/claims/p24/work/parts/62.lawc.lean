/-! BUILDING THE LAW'S PARLOUR: what its cells hold -/
def BI (nb : Nat) (B : Ab) : Prop := B 0 0 6 = 0 ∧ B 3 0 1 = 0 ∧ B 3 0 2 = 0 ∧ (∀ i, B 5 i 4 = 0 ∧ B 5 i 2 = 0) ∧ ∀ b, b < nb → B 6 b 9 = 1 ∧ B 6 b 10 = 0 ∧ B 6 b 11 = 0 ∧ B 6 b 12 = 0
theorem BI.eq {nb : Nat} {B B' : Ab} (h : BI nb B) (he : ∀ k i f, (k = 0 ∨ k = 3 ∨ (k = 5 ∧ (f = 2 ∨ f = 4)) ∨ (k = 6 ∧ 9 ≤ f)) → B' k i f = B k i f) : BI nb B' := by
  obtain ⟨h0, h1, h2, h3, h4⟩ := h
  refine ⟨(he 0 0 6 (by omega)).trans h0, (he 3 0 1 (by omega)).trans h1, (he 3 0 2 (by omega)).trans h2, fun i => ⟨(he 5 i 4 (by omega)).trans (h3 i).1, (he 5 i 2 (by omega)).trans (h3 i).2⟩, fun b hb => ?_⟩
  obtain ⟨g1, g2, g3, g4⟩ := h4 b hb
  exact ⟨(he 6 b 9 (by omega)).trans g1, (he 6 b 10 (by omega)).trans g2, (he 6 b 11 (by omega)).trans g3, (he 6 b 12 (by omega)).trans g4⟩
theorem BI.U {nb k i f v : Nat} {B : Ab} (h : BI nb B) (hn : ¬ (k = 0 ∨ k = 3 ∨ (k = 5 ∧ (f = 2 ∨ f = 4)) ∨ (k = 6 ∧ 9 ≤ f))) : BI nb (aU B k i f v) :=
  h.eq fun k' i' f' hk => by rw [aU_eq, if_neg (by omega)]
theorem BI.addB {nb s w n p q : Nat} {B : Ab} (h : BI nb B) : BI (nb + 1) (nbA B nb s w n p q) := by
  obtain ⟨h0, h1, h2, h3, h4⟩ := h
  refine ⟨(nbA_o (by omega)).trans h0, (nbA_o (by omega)).trans h1, (nbA_o (by omega)).trans h2, fun i => ⟨(nbA_o (by omega)).trans (h3 i).1, (nbA_o (by omega)).trans (h3 i).2⟩, fun b hb => ?_⟩
  by_cases hbn : b = nb
  · subst hbn
    refine ⟨?_, ?_, ?_, ?_⟩ <;> simp [nbA, (h3 s).2]
  · obtain ⟨g1, g2, g3, g4⟩ := h4 b (by omega)
    exact ⟨(nbA_o (by omega)).trans g1, (nbA_o (by omega)).trans g2, (nbA_o (by omega)).trans g3, (nbA_o (by omega)).trans g4⟩
theorem BI.lw {ns nb : Nat} {B : Ab} (h : BI nb B) : Lw ns nb (hs B ns) 0 B := by
  obtain ⟨h0, h1, h2, h3, h4⟩ := h
  have e1 : ss B ns = 0 := (fb_sm_cong (g := fun _ => 0) fun j _ => (h3 j).2).trans (by rw [fb_sm_const, Nat.mul_zero])
  have e2 : os B nb = 0 := (fb_sm_cong (g := fun _ => 0) fun j hj => (h4 j hj).2.2.2).trans (by rw [fb_sm_const, Nat.mul_zero])
  refine ⟨h0, fun i _ => (h3 i).1, fun i hi => ⟨(h4 i hi).1, (h4 i hi).2.1, ?_⟩, ⟨by omega, by omega, by omega, by omega⟩, ⟨fun j hj => absurd hj (by omega), fun j hj => absurd hj (by omega)⟩, by omega⟩
  unfold comeA
  rw [(h4 i hi).2.2.1, (h3 _).2, Nat.zero_sub, Nat.zero_mul, Nat.zero_mul, Nat.zero_div]
/-- arrays keep what they held -/
def xLi (X X' : Nat → Option va_E) : Prop := ∀ a x, X a = some (.inl x) → X' a = some (.inl x)
theorem xLi.rf {X : Nat → Option va_E} : xLi X X := fun _ _ h => h
theorem xLi.tr {X Y Z : Nat → Option va_E} (h : xLi X Y) (h2 : xLi Y Z) : xLi X Z := fun a x ha => h2 a x (h a x ha)
theorem xLe.li {X Y : Nat → Option va_E} (h : xLe X Y) : xLi X Y := fun a x ha => h a _ ha
theorem xU_li {X : Nat → Option va_E} {q : Nat} {e e' : va_E} {z : Nat × List Value} (hq : X q = some (.inr z)) (he : e = e) : xLi X (xU X q e') := fun a x ha => by
  have : a ≠ q := fun z9 => by rw [z9, hq] at ha; cases ha
  exact (xU_ne this).trans ha
theorem er_ei {f : Nat → Option Nat} {F : Nat → Int32} {n n' : Nat} {c c' : ClassId} (h : some (Er f n c) = some (Ei F n' c')) : False := by
  have := congrArg Prod.snd (inl_x h)
  cases this
theorem LB.le2 {g : Gx} {X X' : Nat → Option va_E} {B B' : Ab} {b q : Nat} (h : LB g X B b q) (hx : xLe X X') (h2 : B' 6 b 2 = B 6 b 2) (h12 : ∀ c, c < 3 → ∀ x, B' 12 (3 * b + c) x = B 12 (3 * b + c) x) : LB g X' B' b q := by
  obtain ⟨s, w, n, p, q', a1, a2, a3, fC, h1, h3, h4⟩ := h
  refine ⟨s, w, n, p, q', a1, a2, a3, fC, hx _ _ h1, hx _ _ h3, fun c hc => ?_⟩
  obtain ⟨ar, m, f, h5, h6, h7, h8⟩ := h4 c hc
  refine ⟨ar, m, f, h5, hx _ _ h6, h7, fun i hi => ?_⟩
  obtain ⟨a, x, v, F, g1, g2, g3, g4, g5, g6⟩ := h8 i hi
  exact ⟨a, x, v, F, g1, hx _ _ g2, by rw [h2]; exact g3, g4, by rw [h12 c hc]; exact g5, g6⟩
/-- the parlour's cells of the law, but its birds -/
def SB (g : Gx) (X : Nat → Option va_E) (sim aS aC aB aO n : Nat) (FS : Nat → Option Nat) (rr : Nat → Nat) : Prop := X sim = some (simE aS aC aB aO) ∧ X aS = some (Er FS n (g.2.2.2.1 0)) ∧ (∀ j, j < n → ∃ v z, FS j = some v ∧ X v = some (.inl (g.2.1.1, z))) ∧ X aC = some (Er (fun i => if i < 4 then some (rr i) else none) 4 (g.2.2.2.1 2)) ∧ ∀ i, i < 4 → ∃ F : Nat → Int32, X (rr i) = some (.inl (g.2.1.2.1, 4, .inl F))
theorem SB.le {g : Gx} {X X' : Nat → Option va_E} {sim aS aC aB aO n : Nat} {FS : Nat → Option Nat} {rr : Nat → Nat} (h : SB g X sim aS aC aB aO n FS rr) (hx : xLe X X') : SB g X' sim aS aC aB aO n FS rr := by
  obtain ⟨h1, h2, h3, h4, h5⟩ := h
  exact ⟨hx _ _ h1, hx _ _ h2, fun j hj => (by obtain ⟨v, z, a, b⟩ := h3 j hj; exact ⟨v, z, a, hx _ _ b⟩), hx _ _ h4, fun i hi => (by obtain ⟨F, a⟩ := h5 i hi; exact ⟨F, hx _ _ a⟩)⟩
theorem SB.put {g : Gx} {X : Nat → Option va_E} {sim aS aC aB aO n : Nat} {FS : Nat → Option Nat} {rr : Nat → Nat} (h : SB g X sim aS aC aB aO n FS rr) {qn aB' n' : Nat} {FS' : Nat → Option Nat} (hq : X qn = some (Er FS' n' (g.2.2.2.1 0))) (h' : ∀ j, j < n' → ∃ v z, FS' j = some v ∧ X v = some (.inl (g.2.1.1, z))) : SB g (xU X sim (simE qn aC aB' aO)) sim qn aC aB' aO n' FS' rr ∧ xLi X (xU X sim (simE qn aC aB' aO)) := by
  obtain ⟨h1, h2, h3, h4, h5⟩ := h
  have hi : xLi X (xU X sim (simE qn aC aB' aO)) := xU_li (e := simE qn aC aB' aO) h1 rfl
  exact ⟨⟨xU_self _ _ _, hi _ _ hq, fun j hj => (by obtain ⟨v, z, a, b⟩ := h' j hj; exact ⟨v, z, a, hi _ _ b⟩), hi _ _ h4, fun i hi' => (by obtain ⟨F, a⟩ := h5 i hi'; exact ⟨F, hi _ _ a⟩)⟩, hi⟩
theorem SB.bl {g : Gx} {X : Nat → Option va_E} {sim aS aC aB aO n : Nat} {FS : Nat → Option Nat} {rr : Nat → Nat} (h : SB g X sim aS aC aB aO n FS rr) {i : Nat} (hi : i < 4) (F' : Nat → Int32) : SB g (xU X (rr i) (.inl (g.2.1.2.1, 4, .inl F'))) sim aS aC aB aO n FS rr ∧ ∀ a f n9 c9, X a = some (Er f n9 c9) → xU X (rr i) (.inl (g.2.1.2.1, 4, .inl F')) a = some (Er f n9 c9) := by
  obtain ⟨h1, h2, h3, h4, h5⟩ := h
  obtain ⟨F, hF⟩ := h5 i hi
  have hr : ∀ a f n9 c9, X a = some (Er f n9 c9) → xU X (rr i) (.inl (g.2.1.2.1, 4, .inl F')) a = some (Er f n9 c9) := fun a f n9 c9 ha => by
    have : a ≠ rr i := fun z => by rw [z, hF] at ha; cases ha
    exact (xU_ne this).trans ha
  refine ⟨⟨?_, hr _ _ _ _ h2, fun j hj => ?_, hr _ _ _ _ h4, fun i' hi' => ?_⟩, hr⟩
  · have : sim ≠ rr i := fun z => by rw [z, hF] at h1; cases h1
    exact (xU_ne this).trans h1
  · obtain ⟨v, z, a, b⟩ := h3 j hj
    by_cases hv : v = rr i
    · have hc : g.2.1.1 = g.2.1.2.1 := by rw [hv, hF] at b; exact (inl_c b).symm
      exact ⟨v, (4, .inl F'), a, by rw [hv, xU_self, hc]⟩
    · exact ⟨v, z, a, (xU_ne hv).trans b⟩
  · by_cases hv : rr i' = rr i
    · exact ⟨F', by rw [hv, xU_self]⟩
    · obtain ⟨F2, a⟩ := h5 i' hi'
      exact ⟨F2, (xU_ne hv).trans a⟩
/-! the pins of a bird of the law -/
def u1 {α : Type} (f : Nat → α) (c : Nat) (a : α) : Nat → α := fun c' => if c' = c then a else f c'
theorem u1_s {α : Type} (f : Nat → α) (c : Nat) (a : α) : u1 f c a c = a := if_pos rfl
theorem u1_n {α : Type} {f : Nat → α} {c c' : Nat} {a : α} (h : c' ≠ c) : u1 f c a c' = f c' := if_neg h
def u2 {α : Type} (f : Nat → Nat → α) (c i : Nat) (a : α) : Nat → Nat → α := fun c' i' => if c' = c ∧ i' = i then a else f c' i'
theorem u2_s {α : Type} (f : Nat → Nat → α) (c i : Nat) (a : α) : u2 f c i a c i = a := if_pos ⟨rfl, rfl⟩
theorem u2_n {α : Type} {f : Nat → Nat → α} {c i c' i' : Nat} {a : α} (h : ¬ (c' = c ∧ i' = i)) : u2 f c i a c' i' = f c' i' := if_neg h
def PI (g : Gx) (X : Nat → Option va_E) (B : Ab) (k a1 m : Nat) (f : Nat → Option Nat) (A x y : Nat → Nat) (F : Nat → Nat → Int32) : Prop := X a1 = some (Er f m (g.2.2.2.1 0)) ∧ (∀ j, j < m → f j = some (A j) ∧ X (A j) = some (Ei (F j) 2 g.2.1.1) ∧ F j 0 = nI (x j) ∧ F j 1 = nI (y j) ∧ x j < B 6 k 2 ∧ y j < 6) ∧ (∀ px py, py < 6 → B 7 k px / 2 ^ py % 2 = 1 → ∃ j, j < m ∧ x j = px ∧ y j = py) ∧ B 6 k 8 = m
theorem px_bit : ∀ (v : Fin 64) (i j : Fin 6), i ≠ j → (v.1 ^^^ 2 ^ i.1) / 2 ^ j.1 % 2 = v.1 / 2 ^ j.1 % 2 := by decide +kernel
theorem PI.add {g : Gx} {X : Nat → Option va_E} {B : Ab} {k a1 m : Nat} {f : Nat → Option Nat} {A x y : Nat → Nat} {F : Nat → Nat → Int32} (h : PI g X B k a1 m f A x y F) {q a ar px py : Nat} {z : Nat × List Value} {e' : va_E} {Fa : Nat → Int32} (hq : X q = some (.inr z)) (ha : X a = none) (har : xU X a (Ei Fa 2 g.2.1.1) ar = none) (f0 : Fa 0 = nI px) (f1 : Fa 1 = nI py) (hpx : px < B 6 k 2) (hpy : py < 6) (h64 : B 7 k px < 64) :
    PI g (xU (xU (xU X a (Ei Fa 2 g.2.1.1)) ar (Er (fun j => if j < m then f j else if j = m then some a else none) (m + 1) (g.2.2.2.1 0))) q e') (aU (aU B 6 k 8 (B 6 k 8 + 1)) 7 k px (B 7 k px ^^^ 2 ^ py)) k ar (m + 1) (fun j => if j < m then f j else if j = m then some a else none) (u1 A m a) (u1 x m px) (u1 y m py) (u1 F m Fa) := by
  obtain ⟨h1, h2, h3, h4⟩ := h
  obtain ⟨n1, n2⟩ := xnone har
  have naq : a ≠ q := fun z9 => by rw [z9, hq] at ha; cases ha
  have nrq : ar ≠ q := fun z9 => by rw [z9, hq] at n2; cases n2
  have e6 : aU (aU B 6 k 8 (B 6 k 8 + 1)) 7 k px (B 7 k px ^^^ 2 ^ py) 6 k 2 = B 6 k 2 := (aU_k (by decide)).trans (aU_f (by decide))
  refine ⟨(xU_ne nrq).trans (xU_self _ _ _), fun j hj => ?_, fun px' py' hp hb => ?_, ?_⟩
  · rw [e6]
    by_cases hjm : j = m
    · subst hjm
      rw [u1_s, u1_s, u1_s, u1_s]
      exact ⟨(if_neg (Nat.lt_irrefl _)).trans (if_pos rfl), (xU_ne naq).trans ((xU_ne n1.symm).trans (xU_self _ _ _)), f0, f1, hpx, hpy⟩
    · rw [u1_n hjm, u1_n hjm, u1_n hjm, u1_n hjm]
      obtain ⟨b1, b2, b3, b4, b5, b6⟩ := h2 j (by omega)
      have m1 : A j ≠ q := fun z9 => by rw [z9, hq] at b2; cases b2
      have m2 : A j ≠ a := fun z9 => by rw [z9, ha] at b2; cases b2
      have m3 : A j ≠ ar := fun z9 => by rw [z9, n2] at b2; cases b2
      exact ⟨(if_pos (by omega)).trans b1, (xU_ne m1).trans ((xU_ne m3).trans ((xU_ne m2).trans b2)), b3, b4, b5, b6⟩
  · by_cases hx : px' = px
    · by_cases hy : py' = py
      · exact ⟨m, by omega, by rw [u1_s, hx], by rw [u1_s, hy]⟩
      · subst hx
        rw [aU_same, px_bit ⟨_, h64⟩ ⟨py, hpy⟩ ⟨py', hp⟩ (fun z9 => hy (congrArg Fin.val z9).symm)] at hb
        obtain ⟨j, j1, j2, j3⟩ := h3 px' py' hp hb
        exact ⟨j, by omega, by rw [u1_n (by omega)]; exact j2, by rw [u1_n (by omega)]; exact j3⟩
    · rw [aU_f hx, aU_k (by decide)] at hb
      obtain ⟨j, j1, j2, j3⟩ := h3 px' py' hp hb
      exact ⟨j, by omega, by rw [u1_n (by omega)]; exact j2, by rw [u1_n (by omega)]; exact j3⟩
  · rw [aU_k (by decide), aU_same, h4]
/-! the cams of a bird of the law -/
def CI (g : Gx) (Xk X : Nat → Option va_E) (B : Ab) (k a2 : Nat) (fC : Nat → Option Nat) (M AR : Nat → Nat) (fl : Nat → Nat → Option Nat) (A x v : Nat → Nat → Nat) (F : Nat → Nat → Nat → Int32) : Prop :=
  (∀ u, u < 3 → fC u = some (AR u) ∧ AR u ≠ a2 ∧ X (AR u) = some (Er (fl u) (M u) (g.2.2.2.1 0)) ∧ (∀ i, i < M u → fl u i = some (A u i) ∧ Xk (A u i) = none ∧ X (A u i) = some (Ei (F u i) 2 g.2.1.1) ∧ F u i 0 = nI (x u i) ∧ F u i 1 = nI (v u i) ∧ x u i < B 6 k 2 ∧ v u i ≤ 100 ∧ B 12 (3 * k + u) (x u i) = v u i + 1) ∧ (∀ i j, i < M u → j < M u → x u i = x u j → i = j) ∧ (∀ y, B 12 (3 * k + u) y ≠ 0 → ∃ i, i < M u ∧ x u i = y) ∧ M u = ptsA (B 12 (3 * k + u)) (B 6 k 2)) ∧
  ∀ u u' i j, u < 3 → u' < 3 → i < M u → j < M u' → A u i = A u' j → u = u' ∧ i = j
theorem pt_new (B : Ab) (K px w n : Nat) : ptsA (aU B 12 K px w 12 K) n + (if px < n ∧ B 12 K px ≠ 0 then 1 else 0) = ptsA (B 12 K) n + (if px < n ∧ w ≠ 0 then 1 else 0) := by
  have e : aU B 12 K px w 12 K = fun y => if y = px then w else B 12 K y := by
    funext y
    rw [aU_eq]
    by_cases q : y = px
    · rw [if_pos ⟨rfl, rfl, q⟩, if_pos q]
    · rw [if_neg (fun z => q z.2.2), if_neg q]
  rw [e]
  exact pts_upd (B 12 K) px w n
theorem CI.new {g : Gx} {Xk X : Nat → Option va_E} {B : Ab} {k a2 : Nat} {fC : Nat → Option Nat} {M AR : Nat → Nat} {fl : Nat → Nat → Option Nat} {A x v : Nat → Nat → Nat} {F : Nat → Nat → Nat → Int32} (h : CI g Xk X B k a2 fC M AR fl A x v F) {c : Nat} (hc : c < 3) (hle : xLe Xk X) (hX2 : X a2 = some (Er fC 3 (g.2.2.2.1 1))) {a ar px pv : Nat} {Fa : Nat → Int32} (ha : X a = none) (har : xU X a (Ei Fa 2 g.2.1.1) ar = none) (f0 : Fa 0 = nI px) (f1 : Fa 1 = nI pv) (hpx : px < B 6 k 2) (hpv : pv ≤ 100) (hz : B 12 (3 * k + c) px = 0) :
    CI g Xk (xU (xU (xU X a (Ei Fa 2 g.2.1.1)) ar (Er (fun j => if j < M c then fl c j else if j = M c then some a else none) (M c + 1) (g.2.2.2.1 0))) a2 (Er (va_up fC c (some ar)) 3 (g.2.2.2.1 1))) (aU B 12 (3 * k + c) px (pv + 1)) k a2 (va_up fC c (some ar)) (u1 M c (M c + 1)) (u1 AR c ar) (u1 fl c (fun j => if j < M c then fl c j else if j = M c then some a else none)) (u2 A c (M c) a) (u2 x c (M c) px) (u2 v c (M c) pv) (u2 F c (M c) Fa) := by
  obtain ⟨h, hd⟩ := h
  obtain ⟨n1, n2⟩ := xnone har
  have na2 : a2 ≠ a := fun z9 => by rw [z9, ha] at hX2; cases hX2
  have nr2 : a2 ≠ ar := fun z9 => by rw [z9, n2] at hX2; cases hX2
  have hka : Xk a = none := by
    cases e : Xk a with
    | none => rfl
    | some e9 => rw [hle a e9 e] at ha; cases ha
  have e6 : aU B 12 (3 * k + c) px (pv + 1) 6 k 2 = B 6 k 2 := aU_k (by decide)
  have old : ∀ u i, u < 3 → i < M u → A u i ≠ a2 ∧ A u i ≠ ar ∧ A u i ≠ a := fun u i hu hi => by
    obtain ⟨-, -, -, p4, -⟩ := h u hu
    obtain ⟨-, -, b3, -⟩ := p4 i hi
    exact ⟨fun z9 => (by rw [z9, hX2] at b3; exact er_ei b3), fun z9 => (by rw [z9, n2] at b3; cases b3), fun z9 => (by rw [z9, ha] at b3; cases b3)⟩
  refine ⟨fun u hu => ?_, fun u u' i j hu hu' hi hj he => ?_⟩
  · obtain ⟨p1, p2, p3, p4, p5, p6, p7⟩ := h u hu
    rw [e6]
    by_cases huc : u = c
    · subst huc
      rw [va_up_self, u1_s, u1_s, u1_s]
      have hne : ∀ i, i < M u → x u i ≠ px := fun i hi z9 => by
        have := (p4 i hi).2.2.2.2.2.2.2
        rw [z9, hz] at this
        omega
      refine ⟨rfl, nr2.symm, (xU_ne nr2.symm).trans (xU_self _ _ _), fun i hi => ?_, fun i j hi hj he => ?_, fun y hy => ?_, ?_⟩
      · by_cases him : i = M u
        · subst him
          rw [u2_s, u2_s, u2_s, u2_s]
          exact ⟨(if_neg (Nat.lt_irrefl _)).trans (if_pos rfl), hka, (xU_ne na2.symm).trans ((xU_ne n1.symm).trans (xU_self _ _ _)), f0, f1, hpx, hpv, aU_same _ _ _ _ _⟩
        · have hi2 : i < M u := by omega
          rw [u2_n (fun z9 => him z9.2), u2_n (fun z9 => him z9.2), u2_n (fun z9 => him z9.2), u2_n (fun z9 => him z9.2)]
          obtain ⟨b1, b2, b3, b4, b5, b6, b7, b8⟩ := p4 i hi2
          obtain ⟨o1, o2, o3⟩ := old u i hu hi2
          exact ⟨(if_pos hi2).trans b1, b2, (xU_ne o1).trans ((xU_ne o2).trans ((xU_ne o3).trans b3)), b4, b5, b6, b7, (aU_f (hne i hi2)).trans b8⟩
      · by_cases him : i = M u
        · by_cases hjm : j = M u
          · omega
          · rw [him, u2_s, u2_n (fun z9 => hjm z9.2)] at he
            exact absurd he.symm (hne j (by omega))
        · by_cases hjm : j = M u
          · rw [hjm, u2_s, u2_n (fun z9 => him z9.2)] at he
            exact absurd he (hne i (by omega))
          · rw [u2_n (fun z9 => him z9.2), u2_n (fun z9 => hjm z9.2)] at he
            exact p5 i j (by omega) (by omega) he
      · by_cases hyp : y = px
        · exact ⟨M u, by omega, by rw [u2_s, hyp]⟩
        · rw [aU_f hyp] at hy
          obtain ⟨i, i1, i2⟩ := p6 y hy
          exact ⟨i, by omega, by rw [u2_n (by omega)]; exact i2⟩
      · have := pt_new B (3 * k + u) px (pv + 1) (B 6 k 2)
        rw [if_neg (fun z9 => z9.2 hz), if_pos ⟨hpx, by omega⟩] at this
        omega
    · have e12 : aU B 12 (3 * k + c) px (pv + 1) 12 (3 * k + u) = B 12 (3 * k + u) := by funext y; exact aU_i (by omega)
      rw [va_up_ne _ _ huc, u1_n huc, u1_n huc, u1_n huc, e12]
      have q1 : AR u ≠ ar := fun z9 => by rw [z9, n2] at p3; cases p3
      have q2 : AR u ≠ a := fun z9 => by rw [z9, ha] at p3; cases p3
      have ux : ∀ i, u2 x c (M c) px u i = x u i := fun i => u2_n (fun z9 => huc z9.1)
      refine ⟨p1, p2, (xU_ne p2).trans ((xU_ne q1).trans ((xU_ne q2).trans p3)), fun i hi => ?_, fun i j hi hj he => ?_, fun y hy => ?_, p7⟩
      · rw [u2_n (fun z9 => huc z9.1), u2_n (fun z9 => huc z9.1), u2_n (fun z9 => huc z9.1), u2_n (fun z9 => huc z9.1)]
        obtain ⟨b1, b2, b3, b4⟩ := p4 i hi
        obtain ⟨o1, o2, o3⟩ := old u i hu hi
        exact ⟨b1, b2, (xU_ne o1).trans ((xU_ne o2).trans ((xU_ne o3).trans b3)), b4⟩
      · rw [ux, ux] at he
        exact p5 i j hi hj he
      · obtain ⟨i, i1, i2⟩ := p6 y hy
        exact ⟨i, i1, (ux i).trans i2⟩
  · have key : ∀ u i, u < 3 → i < u1 M c (M c + 1) u → (u = c ∧ i = M c ∧ u2 A c (M c) a u i = a) ∨ (¬ (u = c ∧ i = M c) ∧ i < M u ∧ u2 A c (M c) a u i = A u i) := fun u i hu hi => by
      by_cases z : u = c ∧ i = M c
      · exact Or.inl ⟨z.1, z.2, by rw [z.1, z.2, u2_s]⟩
      · refine Or.inr ⟨z, ?_, u2_n z⟩
        by_cases huc : u = c
        · rw [huc, u1_s] at hi
          rw [huc]
          omega
        · rw [u1_n huc] at hi
          exact hi
    rcases key u i hu hi with ⟨q1, q2, q3⟩ | ⟨q1, q2, q3⟩
    · rcases key u' j hu' hj with ⟨r1, r2, r3⟩ | ⟨r1, r2, r3⟩
      · exact ⟨q1.trans r1.symm, q2.trans r2.symm⟩
      · rw [q3, r3] at he
        exact absurd he.symm (old u' j hu' r2).2.2
    · rcases key u' j hu' hj with ⟨r1, r2, r3⟩ | ⟨r1, r2, r3⟩
      · rw [q3, r3] at he
        exact absurd he (old u i hu q2).2.2
      · rw [q3, r3] at he
        exact hd u u' i j hu hu' q2 r2 he
theorem CI.set {g : Gx} {Xk X : Nat → Option va_E} {B : Ab} {k a2 : Nat} {fC : Nat → Option Nat} {M AR : Nat → Nat} {fl : Nat → Nat → Option Nat} {A x v : Nat → Nat → Nat} {F : Nat → Nat → Nat → Int32} (h : CI g Xk X B k a2 fC M AR fl A x v F) {c i0 pv : Nat} (hc : c < 3) (hi0 : i0 < M c) {Fa : Nat → Int32} (f0 : Fa 0 = F c i0 0) (f1 : Fa 1 = nI pv) (hpv : pv ≤ 100) :
    CI g Xk (xU X (A c i0) (Ei Fa 2 g.2.1.1)) (aU B 12 (3 * k + c) (x c i0) (pv + 1)) k a2 fC M AR fl A x (u2 v c i0 pv) (u2 F c i0 Fa) := by
  obtain ⟨h, hd⟩ := h
  obtain ⟨-, -, -, c4, -⟩ := h c hc
  obtain ⟨-, -, c5, c6, -, c8, -, c9⟩ := c4 i0 hi0
  have e6 : aU B 12 (3 * k + c) (x c i0) (pv + 1) 6 k 2 = B 6 k 2 := aU_k (by decide)
  refine ⟨fun u hu => ?_, hd⟩
  obtain ⟨p1, p2, p3, p4, p5, p6, p7⟩ := h u hu
  have nr : AR u ≠ A c i0 := fun z9 => by rw [z9, c5] at p3; exact er_ei p3.symm
  rw [e6]
  refine ⟨p1, p2, (xU_ne nr).trans p3, fun i hi => ?_, p5, fun y hy => ?_, ?_⟩
  · by_cases him : u = c ∧ i = i0
    · rw [him.1, him.2, u2_s, u2_s]
      obtain ⟨b1, b2, b3, b4, b5, b6, b7, b8⟩ := c4 i0 hi0
      exact ⟨b1, b2, xU_self _ _ _, f0.trans b4, f1, b6, hpv, aU_same _ _ _ _ _⟩
    · rw [u2_n him, u2_n him]
      obtain ⟨b1, b2, b3, b4, b5, b6, b7, b8⟩ := p4 i hi
      refine ⟨b1, b2, (xU_ne (fun z9 => him (hd u c i i0 hu hc hi hi0 z9))).trans b3, b4, b5, b6, b7, ?_⟩
      by_cases huc : u = c
      · subst huc
        exact (aU_f (fun z9 => him ⟨rfl, p5 i i0 hi hi0 z9⟩)).trans b8
      · exact (aU_i (by omega)).trans b8
  · by_cases huc : u = c
    · subst huc
      by_cases hyx : y = x u i0
      · exact ⟨i0, hi0, hyx.symm⟩
      · rw [aU_f hyx] at hy
        exact p6 y hy
    · rw [aU_i (by omega)] at hy
      exact p6 y hy
  · by_cases huc : u = c
    · subst huc
      have := pt_new B (3 * k + u) (x u i0) (pv + 1) (B 6 k 2)
      rw [if_pos ⟨c8, by omega⟩, if_pos ⟨c8, by omega⟩] at this
      omega
    · have e12 : aU B 12 (3 * k + c) (x c i0) (pv + 1) 12 (3 * k + u) = B 12 (3 * k + u) := by funext y; exact aU_i (by omega)
      rw [e12]
      exact p7
theorem pts_z {P : Nat → Nat} (h : ∀ y, P y = 0) : ∀ n, ptsA P n = 0 := by
  intro n
  induction n with
  | zero => rfl
  | succ n ih => rw [ptsA, ih, if_pos (h n)]
theorem CI.ini {g : Gx} {Xk X : Nat → Option va_E} {B : Ab} {k a2 : Nat} {rr : Nat → Nat} (hr : ∀ u, u < 3 → X (rr u) = some (Er (fun _ => none) 0 (g.2.2.2.1 0)) ∧ rr u ≠ a2) (hz : ∀ u, u < 3 → ∀ y, B 12 (3 * k + u) y = 0) : CI g Xk X B k a2 (fun i => if i < 3 then some (rr i) else none) (fun _ => 0) rr (fun _ _ => none) (fun _ _ => 0) (fun _ _ => 0) (fun _ _ => 0) (fun _ _ _ => 0) :=
  ⟨fun u hu => ⟨if_pos hu, (hr u hu).2, (hr u hu).1, fun i hi => absurd hi (Nat.not_lt_zero i), fun i j hi => absurd hi (Nat.not_lt_zero i), fun y hy => absurd (hz u hu y) hy, (pts_z (hz u hu) _).symm⟩, fun u u' i j _ _ hi => absurd hi (Nat.not_lt_zero i)⟩
theorem CI.lb {g : Gx} {Xk X : Nat → Option va_E} {B : Ab} {k a2 : Nat} {fC : Nat → Option Nat} {M AR : Nat → Nat} {fl : Nat → Nat → Option Nat} {A x v : Nat → Nat → Nat} {F : Nat → Nat → Nat → Int32} (h : CI g Xk X B k a2 fC M AR fl A x v F) (hM : ∀ u, u < 3 → M u ≤ 3) {q a1 a3 : Nat} {s w n p q' : Int32} (hq : X q = some (birdE s w n p q' a1 a2 a3)) (h2 : X a2 = some (Er fC 3 (g.2.2.2.1 1))) : LB g X B k q := by
  refine ⟨s, w, n, p, q', a1, a2, a3, fC, hq, h2, fun u hu => ?_⟩
  obtain ⟨p1, p2, p3, p4, -⟩ := h.1 u hu
  refine ⟨AR u, M u, fl u, p1, p3, hM u hu, fun i hi => ?_⟩
  obtain ⟨b1, b2, b3, b4, b5, b6, b7, b8⟩ := p4 i hi
  exact ⟨A u i, x u i, v u i, F u i, b1, b3, b6, b7, b8, b5⟩
theorem CI.le {g : Gx} {Xk X X' : Nat → Option va_E} {B B' : Ab} {k a2 : Nat} {fC : Nat → Option Nat} {M AR : Nat → Nat} {fl : Nat → Nat → Option Nat} {A x v : Nat → Nat → Nat} {F : Nat → Nat → Nat → Int32} (h : CI g Xk X B k a2 fC M AR fl A x v F) {a3 : Nat} {f3 f3' : Nat → Int32} (h3 : X a3 = some (Ei f3 6 g.2.1.1)) (h6 : B' 6 k 2 = B 6 k 2) (h12 : ∀ u, u < 3 → B' 12 (3 * k + u) = B 12 (3 * k + u)) : CI g Xk (xU X a3 (Ei f3' 6 g.2.1.1)) B' k a2 fC M AR fl A x v F := by
  refine ⟨fun u hu => ?_, h.2⟩
  obtain ⟨p1, p2, p3, p4, p5, p6, p7⟩ := h.1 u hu
  rw [h6, h12 u hu]
  refine ⟨p1, p2, (xU_ne (fun z9 => by rw [z9, h3] at p3; exact er_ei p3.symm)).trans p3, fun i hi => ?_, p5, p6, p7⟩
  obtain ⟨b1, b2, b3, b4⟩ := p4 i hi
  refine ⟨b1, b2, (xU_ne (fun z9 => ?_)).trans b3, b4⟩
  rw [z9, h3] at b3
  exact absurd (inl_n b3) (show ¬ (6 : Nat) = 2 by decide)
