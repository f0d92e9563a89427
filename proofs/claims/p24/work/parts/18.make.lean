/-! MAKING: lists of new cells beside the pool -/
theorem va_D_left {A : Nat → Prop} {w1 w2 : va_W} (h : va_D A (w1 ++ w2)) : va_D A w1 := by
  refine ⟨fun i j p q hi hj hpq => ?_, fun k q hk => ?_⟩
  · have h1 := (List.getElem?_eq_some_iff.mp hi).1
    have h2 := (List.getElem?_eq_some_iff.mp hj).1
    exact h.1 i j p q (by rw [List.getElem?_append_left h1]; exact hi) (by rw [List.getElem?_append_left h2]; exact hj) hpq
  · have h1 := (List.getElem?_eq_some_iff.mp hk).1
    exact h.2 k q (by rw [List.getElem?_append_left h1]; exact hk)
theorem va_P_left {D : va_G} {cl : List vw_C} {H : Heap} {w1 w2 : va_W} (h : va_P D cl (w1 ++ w2) H) : va_P D cl w1 H := fun k q hk =>
  h k q (by rw [List.getElem?_append_left (List.getElem?_eq_some_iff.mp hk).1]; exact hk)
theorem va_P_right {D : va_G} {cl : List vw_C} {H : Heap} {w1 w2 : va_W} (h : va_P D cl (w1 ++ w2) H) : va_P D cl w2 H := fun k q hk =>
  h (w1.length + k) q (by rw [List.getElem?_append_right (by omega), Nat.add_sub_cancel_left]; exact hk)
/-- new cells become part of the pool -/
theorem pool_app {A : Nat → Prop} : ∀ (ws : va_W) (L : List Nat) (f : Nat → va_E), va_D A (va_pl L f ++ ws) → ∃ (L' : List Nat) (f' : Nat → va_E), va_pl L' f' = va_pl L f ++ ws ∧ (∀ a ∈ L, a ∈ L' ∧ f' a = f a) ∧ ∀ x ∈ ws, x.1 ∈ L' ∧ f' x.1 = x.2
  | [], L, f, _ => ⟨L, f, (List.append_nil _).symm, fun a ha => ⟨ha, rfl⟩, fun x hx => absurd hx List.not_mem_nil⟩
  | (a, e) :: ws, L, f, hD => by
    have hD1 : va_D A (([] ++ va_pl L f) ++ [(a, e)]) := by
      have : va_pl L f ++ (a, e) :: ws = (va_pl L f ++ [(a, e)]) ++ ws := by simp
      rw [this] at hD
      exact va_D_left hD
    have hq : a ∉ L := va_pl_fresh2 hD1
    have e1 : va_pl L f ++ [(a, e)] = va_pl (L ++ [a]) (va_up f a e) := va_pl_push hq
    have e2 : va_pl L f ++ (a, e) :: ws = va_pl (L ++ [a]) (va_up f a e) ++ ws := by rw [← e1]; simp
    rw [e2] at hD
    obtain ⟨L', f', h1, h2, h3⟩ := pool_app ws (L ++ [a]) (va_up f a e) hD
    refine ⟨L', f', h1.trans e2.symm, fun b hb => ?_, fun x hx => ?_⟩
    · obtain ⟨g1, g2⟩ := h2 b (List.mem_append_left _ hb)
      exact ⟨g1, g2.trans (va_up_ne _ _ (fun z => hq (z ▸ hb)))⟩
    · rcases List.mem_cons.mp hx with rfl | hx
      · obtain ⟨g1, g2⟩ := h2 a (List.mem_append_right _ (List.mem_singleton.mpr rfl))
        exact ⟨g1, g2.trans (va_up_self _ _ _)⟩
      · exact h3 x hx
/-- the pool and a list beside it -/
def FX (g : Gx) (h : Sh) (A : Nat → Prop) (cf : Nat → Nat → va_E) (ws : va_W) (H : Heap) : Prop :=
  ∃ (L : List Nat) (f : Nat → va_E), va_P g.1 vwCl (va_pl L f ++ ws) H ∧ va_D A (va_pl L f ++ ws) ∧ (∀ k i, al h k i → h.2.2 k i ∈ L ∧ f (h.2.2 k i) = cf k i) ∧ (∀ k i k' i', al h k i → al h k' i' → h.2.2 k i = h.2.2 k' i' → k = k' ∧ i = i') ∧ XW g.2.2.2.2 h L f
theorem FX.W {g : Gx} {h : Sh} {A : Nat → Prop} {σ : Sg} {ws : va_W} {H : Heap} (hX : FX g h A (ct g h σ) ws H) : FW g h A σ H := by
  obtain ⟨L, f, hP, hD, hR, hJ⟩ := hX
  exact ⟨L, f, va_P_left hP, va_D_left hD, hR, hJ⟩
/-- a new shape: each role is an old one, unchanged, or one of the list -/
theorem FX.add {g : Gx} {h h' : Sh} {A : Nat → Prop} {cf : Nat → Nat → va_E} {σ' : Sg} {ws : va_W} {H : Heap} (hX : FX g h A cf ws H) (nw : Nat → Nat → Option Nat)
    (ho : ∀ k i, al h' k i → nw k i = none → al h k i ∧ h'.2.2 k i = h.2.2 k i ∧ ct g h' σ' k i = cf k i) (hn : ∀ k i j, al h' k i → nw k i = some j → ws[j]? = some (h'.2.2 k i, ct g h' σ' k i)) (hi : ∀ k i k' i' j, nw k i = some j → nw k' i' = some j → al h' k i → al h' k' i' → k = k' ∧ i = i') : FW g h' A σ' H := by
  obtain ⟨L, f, hP, hD, hR, hJ, hXw⟩ := hX
  obtain ⟨L', f', e, h1, h2⟩ := pool_app ws L f hD
  have hin : ∀ k i, al h' k i → h'.2.2 k i ∈ L' ∧ f' (h'.2.2 k i) = ct g h' σ' k i := by
    intro k i ha
    cases hc : nw k i with
    | none =>
      obtain ⟨a1, a2, a3⟩ := ho k i ha hc
      obtain ⟨b1, b2⟩ := hR k i a1
      obtain ⟨c1, c2⟩ := h1 _ b1
      rw [a2, a3]
      exact ⟨c1, c2.trans b2⟩
    | some j =>
      have := h2 _ (List.mem_of_getElem? (hn k i j ha hc))
      exact this
  have apart : ∀ (a j : Nat) (x : Nat × va_E), a ∈ L → ws[j]? = some x → a ≠ x.1 := by
    intro a j x ha hx hax
    obtain ⟨k, hk⟩ := va_pl_get (X := []) (f := f) ha
    have hk : (va_pl L f)[k]? = some (a, f a) := hk
    have hlt := (List.getElem?_eq_some_iff.mp hk).1
    have q1 : (va_pl L f ++ ws)[k]? = some (a, f a) := by rw [List.getElem?_append_left hlt]; exact hk
    have q2 : (va_pl L f ++ ws)[(va_pl L f).length + j]? = some x := by rw [List.getElem?_append_right (by omega), Nat.add_sub_cancel_left]; exact hx
    have := hD.1 _ _ _ _ q1 q2 hax
    omega
  refine ⟨L', f', by rw [e]; exact hP, by rw [e]; exact hD, hin, ?_, fun q e9 hq => ?_⟩
  rotate_left
  · obtain ⟨x1, x2, x3⟩ := hXw q e9 hq
    refine ⟨(h1 q x1).1, (h1 q x1).2.trans x2, fun k i ha => ?_⟩
    cases hc : nw k i with
    | none =>
      obtain ⟨a1, a2, a3⟩ := ho k i ha hc
      rw [a2]
      exact x3 k i a1
    | some j => exact fun z => apart q j _ x1 (hn k i j ha hc) z.symm
  intro k i k' i' ha ha' heq
  cases hc : nw k i with
  | none =>
    obtain ⟨a1, a2, a3⟩ := ho k i ha hc
    cases hc' : nw k' i' with
    | none =>
      obtain ⟨b1, b2, b3⟩ := ho k' i' ha' hc'
      rw [a2, b2] at heq
      exact hJ k i k' i' a1 b1 heq
    | some j =>
      rw [a2] at heq
      exact absurd heq (apart _ j _ (hR k i a1).1 (hn k' i' j ha' hc'))
  | some j =>
    cases hc' : nw k' i' with
    | none =>
      obtain ⟨b1, b2, b3⟩ := ho k' i' ha' hc'
      rw [b2] at heq
      exact absurd heq.symm (apart _ j _ (hR k' i' b1).1 (hn k i j ha hc))
    | some j' =>
      have q1 := hn k i j ha hc
      have q2 := hn k' i' j' ha' hc'
      have r1 : (va_pl L f ++ ws)[(va_pl L f).length + j]? = some (h'.2.2 k i, ct g h' σ' k i) := by rw [List.getElem?_append_right (by omega), Nat.add_sub_cancel_left]; exact q1
      have r2 : (va_pl L f ++ ws)[(va_pl L f).length + j']? = some (h'.2.2 k' i', ct g h' σ' k' i') := by rw [List.getElem?_append_right (by omega), Nat.add_sub_cancel_left]; exact q2
      have := hD.1 _ _ _ _ r1 r2 heq
      have hjj : j = j' := by omega
      subst hjj
      exact hi k i k' i' j hc hc' ha ha'
/-- behind the call of a constructor: the pool is as it was, the list is the constructor's -/
theorem FX.join {g : Gx} {h : Sh} {A : Nat → Prop} {cf : Nat → Nat → va_E} {wc w1 : va_W} {H H1 : Heap} (hX : FX g h A cf wc H) (hk : ∀ q : Nat, q < H.size → ¬ va_A wc H.size q → H1[q]? = H[q]?) (hF : ∀ q, va_A wc H.size q → A q) (hP1 : va_P g.1 vwCl w1 H1) (hD1 : va_D (va_A wc H.size) w1) : FX g h A cf w1 H1 := by
  obtain ⟨L, f, hP, hD, hR, hJ⟩ := hX
  have ap : ∀ (k : Nat) (q : Nat × va_E), (va_pl L f)[k]? = some q → q.1 < H.size ∧ ¬ va_A wc H.size q.1 := by
    intro k q hq
    have hlt := (List.getElem?_eq_some_iff.mp hq).1
    have q1 : (va_pl L f ++ wc)[k]? = some q := by rw [List.getElem?_append_left hlt]; exact hq
    have hl := (hP k q q1).lt
    refine ⟨hl, fun z => ?_⟩
    rcases z with ⟨j, e, hj⟩ | z
    · have q2 : (va_pl L f ++ wc)[(va_pl L f).length + j]? = some (q.1, e) := by rw [List.getElem?_append_right (by omega), Nat.add_sub_cancel_left]; exact hj
      have := hD.1 _ _ _ _ q1 q2 rfl
      omega
    · omega
  refine ⟨L, f, va_P.app ((va_P_left hP).kept (fun k q hq => hk q.1 (ap k q hq).1 (ap k q hq).2)) hP1, va_D.app (va_D_left hD) (hD1.weaken (fun k q _ z => hF q.1 z)) (fun i j p q hp hq hpq => ?_), hR, hJ⟩
  exact (ap i p hp).2 (by rw [hpq]; exact hD1.2 j q hq)
theorem FW.X {g : Gx} {h : Sh} {A : Nat → Prop} {σ : Sg} {H : Heap} (hW : FW g h A σ H) : FX g h A (ct g h σ) [] H := by
  obtain ⟨L, f, hP, hD, hR, hJ⟩ := hW
  exact ⟨L, f, by rw [List.append_nil]; exact hP, by rw [List.append_nil]; exact hD, hR, hJ⟩
section MK
variable {p : Program} {l : Launch} {e : Env} {R : Room} {s : State} {m : MethodId} {args : Array Value} {below : List Frame} {meth : Method} {c : Code} {H : Heap} {locs : List Loc} {cells slots : Nat} {Q : State → Prop}
variable {cc bytes : ByteArray} {pc nL maxL index n lo mc ms fr lw : Nat} {ls : Array Slot} {rest st0 As : List Value} {own C : String} {g : Gx} {h : Sh} {σ σ1 : Sg} {y : MethodName} {ret : Option FieldType} {b : Nat} {Qc : Array Value → State → Outcome → State → Prop} {A : Nat → Prop} {H0 : Heap}
theorem newX (C0 : CallFix p m c cc nL s args wB own) (hK : KW g s) {cf : Nat → Nat → va_E} (hX : FX g h A cf [] H) (hS : va_S A H0 H locs) (hA : ∀ q, H0.size ≤ q → A q) {C : String} {T : u_T} {N ci : Nat} (hin : ∀ w ∈ u_ws C T N, w ∈ wB) {ty : Nat → FieldType} (hty : ∀ k, k < N → parseFieldDescriptor (T k).2.2.1 = some (ty k)) (hcl : Cond.classLink own index C ∈ wB) (hinst : Cond.instantiable C N ∈ wB) (hini : Cond.initialized C ∈ wB) (hc : vwCl[ci]? = some (C, T, N)) {fs : List Value} (hfs : ∀ j, j < N → defaultValue (ty j) = vp_V fs j) (hcells : cells + 1 ≤ R.cells) (hslots : slots + N ≤ R.slots) (hdg : decode cc pc = .ok (.new index, 3))
    (kk : ∀ (q : Nat) (H1 : Heap), FX g h A cf [(q, .inr (ci, fs))] H1 → va_S A H0 H1 locs → W p l e R s m args below meth c H1 locs (cells + 1) (slots + N) Q (F0 m (pc + 3) ls (.ref q :: rest))) : W p l e R s m args below meth c H locs cells slots Q (F0 m pc ls rest) := by
  obtain ⟨L, f, hP, hD, hR, hJ⟩ := hX
  rw [List.append_nil] at hP hD
  exact va_new C0.1 C0.2.1 C0.2.2.2.2 hin ty hty C0.2.2.2.1 (C0.2.2.2.2 _ hcl) (C0.2.2.2.2 _ hinst) (C0.2.2.2.2 _ hini) hK.1 hP hD hS hA hc hfs hcells hslots hdg (fun q H1 hP1 hD1 hS1 => kk q H1 ⟨L, f, hP1, hD1, hR, hJ⟩ hS1)
/-- the head of a constructor: its own cell, and what it makes -/
def WL (sz : Nat) (g : Gx) (ws : va_W) (U : State) : Prop := U.heap.size = sz ∧ va_P g.1 vwCl ws U.heap ∧ va_D (fun _ => True) ws ∧ KW g U
theorem WL.blind {sz : Nat} {g : Gx} {ws : va_W} {args : List Value} : FrameBlind (va_Pc args (WL sz g ws)) := fun _ _ _ _ q => ⟨q.1, q.2.1, q.2.2.1, q.2.2.2.1, q.2.2.2.2.call⟩
theorem ofC {sz : Nat} {ws : va_W} {av : List Value} (hy : plainName y.cls = true) (hyo : y.cls = own)
    (body : ∀ (p : Program) (e : Env) (s : State) (m : MethodId) (below : List Frame) (meth : Method) (c : Code) (A : Nat → Prop), CallFix p m c cc maxL s av.toArray wB own → meth.sig.returnType = ret → meth.locks = false → meth.name = y.name → KW g s → A = va_A ws s.heap.size → (∀ q : Nat, s.heap.size ≤ q → A q) → va_P g.1 vwCl ws s.heap → va_D A ws → va_S A s.heap s.heap [] → s.heap.size = sz → ∀ ls : Array Slot, lv_has ls maxL (lv_args 0 av) →
      W p l e { frames := fr, cells := mc, slots := ms, locals := lw } s m av.toArray below meth c s.heap [] 0 0 (MQ below Qc av.toArray s mc ms (va_A ws sz)) (F0 m 0 ls [])) (hlen : (lg_sl av).length ≤ maxL) :
    Met l y (ws_ y cc maxL ret) { frames := fr, cells := mc, slots := ms, locals := lw } (va_Pc av (WL sz g ws)) Qc mc ms (va_A ws sz) := by
  refine Met.ofW (cc := cc) (maxL := maxL) (ret := ret) hy rfl ?_
  intro p e s m args below meth c s₁ B hml hv
  obtain ⟨rfl, hsz, hP, hD, hK⟩ := hv
  have hts := atoms_spec (ws := ws_ y cc maxL ret) B.pre
  have hown : s.vm.findClass own = some m.cls := hyo ▸ findClass_of_methodNamed B.named
  rw [lg_entry_eq]
  exact body p e s m below meth c _ ⟨B.exec, B.bytes, hml, hown, fun w hw => hts w (List.mem_cons_of_mem _ hw)⟩ B.returns B.notSynchronized (name_of_methodNamed B.named B.method).1 hK rfl (fun q hq => Or.inr hq) hP (hD.self) va_S.rf hsz _ (lv_entry av hlen)
theorem cyI_eq (hK : KW g s) {cA : ClassId} (h1 : va_RA s cA .int) : cA = g.2.1.1 := Option.some.inj (h1.symm.trans (hK.1.2 0 (g.2.1.1, .int) rfl).2)
theorem cyZ_eq (hK : KW g s) {cA : ClassId} (h1 : va_RA s cA .boolean) : cA = g.2.1.2.1 := Option.some.inj (h1.symm.trans (hK.1.2 1 (g.2.1.2.1, .boolean) rfl).2)
theorem cyJ_eq (hK : KW g s) {cA : ClassId} (h1 : va_RA s cA .long) : cA = g.2.1.2.2.1 := Option.some.inj (h1.symm.trans (hK.1.2 2 (g.2.1.2.2.1, .long) rfl).2)
theorem cyS_eq (hK : KW g s) {cA : ClassId} (h1 : va_RA s cA (.object RX3)) : cA = g.2.1.2.2.2.1 := by
  obtain ⟨_, _, _, _, _, a⟩ := h1
  obtain ⟨_, _, _, _, _, b⟩ := (hK.1.2 3 (g.2.1.2.2.2.1, .object RX3) rfl).2
  exact Option.some.inj (a.symm.trans b)
theorem cyB_eq (hK : KW g s) {cA : ClassId} (h1 : va_RA s cA (.object RX0)) : cA = g.2.1.2.2.2.2.1 := by
  obtain ⟨_, _, _, _, _, a⟩ := h1
  obtain ⟨_, _, _, _, _, b⟩ := (hK.1.2 4 (g.2.1.2.2.2.2.1, .object RX0) rfl).2
  exact Option.some.inj (a.symm.trans b)
theorem cyC_eq (hK : KW g s) {cA : ClassId} (h1 : va_RA s cA (.object RX1)) : cA = g.2.1.2.2.2.2.2 := by
  obtain ⟨_, _, _, _, _, a⟩ := h1
  obtain ⟨_, _, _, _, _, b⟩ := (hK.1.2 5 (g.2.1.2.2.2.2.2, .object RX1) rfl).2
  exact Option.some.inj (a.symm.trans b)
end MK
