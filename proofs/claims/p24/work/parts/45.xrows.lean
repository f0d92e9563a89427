/-! THE LAW'S OWN CELLS: reading, writing and making them -/
def xU (X : Nat → Option va_E) (q : Nat) (e : va_E) : Nat → Option va_E := fun a => if a = q then some e else X a
theorem xU_self (X : Nat → Option va_E) (q : Nat) (e : va_E) : xU X q e q = some e := if_pos rfl
theorem xU_ne {X : Nat → Option va_E} {q : Nat} {e : va_E} {a : Nat} (h : a ≠ q) : xU X q e a = X a := if_neg h
def gX (g : Gx) (X : Nat → Option va_E) : Gx := (g.1, g.2.1, g.2.2.1, g.2.2.2.1, X)
theorem KW.x {g : Gx} {X : Nat → Option va_E} {s : State} (h : KW g s) : KW (gX g X) s := h
theorem ct_x (g : Gx) (X : Nat → Option va_E) (h : Sh) (σ : Sg) (k i : Nat) : ct (gX g X) h σ k i = ct g h σ k i := rfl
/-- what is known of the law's cells may be forgotten -/
theorem FW.less {g : Gx} {X X' : Nat → Option va_E} {h : Sh} {A : Nat → Prop} {σ : Sg} {H : Heap} (hF : FW (gX g X) h A σ H) (hx : ∀ q e, X' q = some e → X q = some e) : FW (gX g X') h A σ H := by
  obtain ⟨L, f, hP, hD, hR, hJ, hX⟩ := hF
  exact ⟨L, f, hP, hD, fun k i ha => ⟨(hR k i ha).1, (hR k i ha).2⟩, hJ, fun q e hq => hX q e (hx q e hq)⟩
theorem FW.xat {g : Gx} {X : Nat → Option va_E} {h : Sh} {A : Nat → Prop} {σ : Sg} {H : Heap} (hF : FW (gX g X) h A σ H) {q : Nat} {e : va_E} (hq : X q = some e) : va_at g.1 vwCl (q, e) H := by
  obtain ⟨L, f, hP, hD, hR, hJ, hX⟩ := hF
  obtain ⟨h1, h2, -⟩ := hX q e hq
  obtain ⟨k, hk⟩ := va_pl_get (X := []) (f := f) h1
  have hk : (va_pl L f)[k]? = some (q, f q) := hk
  rw [h2] at hk
  exact hP k _ hk
theorem FW.xcut {g : Gx} {X : Nat → Option va_E} {h : Sh} {A : Nat → Prop} {σ : Sg} {H : Heap} (hF : FW (gX g X) h A σ H) {q : Nat} {e : va_E} (hq : X q = some e) :
    ∃ (ws : va_W) (k : Nat), va_P g.1 vwCl ws H ∧ va_D A ws ∧ ws[k]? = some (q, e) ∧ ∀ (e' : va_E) (H1 : Heap), va_P g.1 vwCl (ws.set k (q, e')) H1 → va_D A (ws.set k (q, e')) → FW (gX g (xU X q e')) h A σ H1 := by
  obtain ⟨L, f, hP, hD, hR, hJ, hX⟩ := hF
  obtain ⟨h1, h2, h3⟩ := hX q e hq
  obtain ⟨k, hk⟩ := va_pl_get (X := []) (f := f) h1
  have hk : (va_pl L f)[k]? = some (q, f q) := hk
  refine ⟨va_pl L f, k, hP, hD, by rw [hk, h2], fun e' H1 hP1 hD1 => ?_⟩
  have es : (va_pl L f).set k (q, e') = va_pl L (va_up f q e') := va_pl_set (X := []) hD h1 hk
  rw [es] at hP1 hD1
  refine ⟨L, _, hP1, hD1, fun k' i' ha => ⟨(hR k' i' ha).1, ?_⟩, hJ, fun z e2 hz => ?_⟩
  · rw [va_up_ne _ _ (h3 k' i' ha)]
    exact (hR k' i' ha).2
  · by_cases hzq : z = q
    · subst hzq
      have hz : xU X z e' z = some e2 := hz
      rw [xU_self] at hz
      cases hz
      exact ⟨h1, va_up_self _ _ _, h3⟩
    · have hz : xU X q e' z = some e2 := hz
      rw [xU_ne hzq] at hz
      obtain ⟨g1, g2, g3⟩ := hX z e2 hz
      exact ⟨g1, by rw [va_up_ne _ _ hzq]; exact g2, g3⟩
/-- a new cell -/
theorem FW.xpush {g : Gx} {X : Nat → Option va_E} {h : Sh} {A : Nat → Prop} {σ : Sg} {H1 : Heap} {L : List Nat} {f : Nat → va_E} (hR : ∀ k i, al h k i → h.2.2 k i ∈ L ∧ f (h.2.2 k i) = ct (gX g X) h σ k i) (hJ : ∀ k i k' i', al h k i → al h k' i' → h.2.2 k i = h.2.2 k' i' → k = k' ∧ i = i') (hX : XW X h L f) {q : Nat} {e : va_E} (hP : va_P g.1 vwCl (va_pl L f ++ [(q, e)]) H1) (hD : va_D A (va_pl L f ++ [(q, e)])) : FW (gX g (xU X q e)) h A σ H1 ∧ X q = none := by
  have hq : q ∉ L := va_pl_fresh2 (X := []) hD
  rw [va_pl_push hq] at hP hD
  have hne : ∀ a, a ∈ L → a ≠ q := fun a ha z => hq (z ▸ ha)
  refine ⟨⟨L ++ [q], _, hP, hD, fun k i ha => ⟨List.mem_append_left _ (hR k i ha).1, ?_⟩, hJ, fun z e2 hz => ?_⟩, ?_⟩
  · rw [va_up_ne _ _ (hne _ (hR k i ha).1)]
    exact (hR k i ha).2
  · have hz : xU X q e z = some e2 := hz
    by_cases hzq : z = q
    · subst hzq
      rw [xU_self] at hz
      cases hz
      exact ⟨List.mem_append_right _ (List.mem_singleton.mpr rfl), va_up_self _ _ _, fun k i ha => hne _ (hR k i ha).1⟩
    · rw [xU_ne hzq] at hz
      obtain ⟨g1, g2, g3⟩ := hX z e2 hz
      exact ⟨List.mem_append_left _ g1, by rw [va_up_ne _ _ hzq]; exact g2, g3⟩
  · cases hx : X q with
    | none => rfl
    | some e2 => exact absurd (hX q e2 hx).1 hq
theorem as_self (s : State) (c : ClassId) : s.vm.assignable c c = true := by
  show Vm.assignableAux s.vm (255 + 1) c c = true
  rw [Vm.assignableAux, beq_self_eq_true, Bool.true_or]
section XR
variable {p : Program} {l : Launch} {e : Env} {R : Room} {s : State} {m : MethodId} {args : Array Value} {below : List Frame} {meth : Method} {c : Code} {H : Heap} {locs : List Loc} {cells slots : Nat} {Q : State → Prop}
variable {cc : ByteArray} {pc nL : Nat} {ls : Array Slot} {rest : List Value} {A : Nat → Prop} {H0 : Heap} {own : String} {g : Gx} {h : Sh} {σ : Sg} {X : Nat → Option va_E} {q : Nat}
theorem xgf (C0 : CallFix p m c cc nL s args wB own) (hK : KW g s) (hW : FW (gX g X) h A σ H) {ci : Nat} {fs : List Value} (hq : X q = some (.inr (ci, fs))) {C : String} {T : u_T} {N : Nat} (hc : vwCl[ci]? = some (C, T, N)) (hin : ∀ w ∈ u_ws C T N, w ∈ wB) (f : Nat) (hf : f < N) {index : Nat} (hl : Cond.fieldLink own index C (T f).2.1 (T f).2.2.1 ∈ wB) (hd : (T f).1 = C) {v : Value} (hv : fs[f]? = some v) (hdg : decode cc pc = .ok (.getfield index, 3))
    (kk : W p l e R s m args below meth c H locs cells slots Q (F0 m (pc + 3) ls (v :: rest))) : W p l e R s m args below meth c H locs cells slots Q (F0 m pc ls (.ref q :: rest)) := by
  obtain ⟨ws, k, hP, -, hk, -⟩ := hW.xcut hq
  exact va_get C0.1 C0.2.1 C0.2.2.2.2 hin C0.2.2.2.1 hK.1 hP k hk hc f hf (C0.2.2.2.2 _ hl) (fun x hx => hd ▸ hx) hv hdg kk
theorem xpf (C0 : CallFix p m c cc nL s args wB own) (hK : KW g s) (hW : FW (gX g X) h A σ H) (hS : va_S A H0 H locs) {ci : Nat} {fs : List Value} (hq : X q = some (.inr (ci, fs))) {C : String} {T : u_T} {N : Nat} (hc : vwCl[ci]? = some (C, T, N)) (hin : ∀ w ∈ u_ws C T N, w ∈ wB) {tyo : Nat → FieldType} (hty : ∀ k, k < N → parseFieldDescriptor (T k).2.2.1 = some (tyo k)) (hnm : ∀ a, a < N → ∀ b, b < N → a ≠ b → (T a).2.1 ≠ (T b).2.1) (f : Nat) (hf : f < N) {index : Nat} (hl : Cond.fieldLink own index C (T f).2.1 (T f).2.2.1 ∈ wB) (hd : (T f).1 = C) (hfin : (T f).2.2.2 = false) {v : Value} (hn : narrow (tyo f) v = v) (hfit : fits (tyo f) v = true) (hlen : f < fs.length)
    (hdg : decode cc pc = .ok (.putfield index, 3)) (kk : ∀ (H1 : Heap) (locs1 : List Loc), FW (gX g (xU X q (.inr (ci, fs.set f v)))) h A σ H1 → va_S A H0 H1 locs1 → W p l e R s m args below meth c H1 locs1 cells slots Q (F0 m (pc + 3) ls rest)) : W p l e R s m args below meth c H locs cells slots Q (F0 m pc ls (v :: .ref q :: rest)) := by
  obtain ⟨ws, k, hP, hD, hk, back⟩ := hW.xcut hq
  exact va_put C0.1 C0.2.1 C0.2.2.2.2 hin tyo hty hnm C0.2.2.2.1 hK.1 hP hD hS k hk hc f hf (C0.2.2.2.2 _ hl) (fun x hx => hd ▸ hx) hfin (hty f hf) hn hfit hlen hdg (fun H1 locs1 hP1 hD1 hS1 => kk H1 locs1 (back _ H1 hP1 hD1) hS1)
theorem xil (C0 : CallFix p m c cc nL s args wB own) (hK : KW g s) (hW : FW (gX g X) h A σ H) {n : Nat} {F : Nat → Int32} (hq : X q = some (.inl (g.2.1.1, n, .inl F))) {x : Int32} (hin : vp_in x n) (hdg : decode cc pc = .ok (.iaload, 1))
    (kk : W p l e R s m args below meth c H locs cells slots Q (F0 m (pc + 1) ls (.int (F x.toNatClampNeg) :: rest))) : W p l e R s m args below meth c H locs cells slots Q (F0 m pc ls (.int x :: .ref q :: rest)) := by
  obtain ⟨ws, k, hP, -, hk, -⟩ := hW.xcut hq
  exact va_iald C0.1 C0.2.1 hK.1 hP k 0 hk rfl hin hdg kk
theorem xis (C0 : CallFix p m c cc nL s args wB own) (hK : KW g s) (hW : FW (gX g X) h A σ H) (hS : va_S A H0 H locs) {n : Nat} {F : Nat → Int32} (hq : X q = some (.inl (g.2.1.1, n, .inl F))) {x v : Int32} (hin : vp_in x n) (hdg : decode cc pc = .ok (.iastore, 1))
    (kk : ∀ (H1 : Heap) (locs1 : List Loc), FW (gX g (xU X q (.inl (g.2.1.1, n, .inl (upd F x.toNatClampNeg v))))) h A σ H1 → va_S A H0 H1 locs1 → W p l e R s m args below meth c H1 locs1 cells slots Q (F0 m (pc + 1) ls rest)) : W p l e R s m args below meth c H locs cells slots Q (F0 m pc ls (.int v :: .int x :: .ref q :: rest)) := by
  obtain ⟨ws, k, hP, hD, hk, back⟩ := hW.xcut hq
  exact va_iast C0.1 C0.2.1 hK.1 hP hD hS k 0 hk rfl hin hdg (fun H1 locs1 hP1 hD1 hS1 => kk H1 locs1 (back _ H1 hP1 hD1) hS1)
theorem xll (C0 : CallFix p m c cc nL s args wB own) (hK : KW g s) (hW : FW (gX g X) h A σ H) {n : Nat} {F : Nat → Int64} (hq : X q = some (.inl (g.2.1.2.2.1, n, .inr (.inl F)))) {x : Int32} (hin : vp_in x n) (hdg : decode cc pc = .ok (.laload, 1))
    (kk : W p l e R s m args below meth c H locs cells slots Q (F0 m (pc + 1) ls (.long (F x.toNatClampNeg) :: rest))) : W p l e R s m args below meth c H locs cells slots Q (F0 m pc ls (.int x :: .ref q :: rest)) := by
  obtain ⟨ws, k, hP, -, hk, -⟩ := hW.xcut hq
  exact va_lald C0.1 C0.2.1 hK.1 hP k 2 hk rfl hin hdg kk
theorem xls (C0 : CallFix p m c cc nL s args wB own) (hK : KW g s) (hW : FW (gX g X) h A σ H) (hS : va_S A H0 H locs) {n : Nat} {F : Nat → Int64} (hq : X q = some (.inl (g.2.1.2.2.1, n, .inr (.inl F)))) {x : Int32} {v : Int64} (hin : vp_in x n) (hdg : decode cc pc = .ok (.lastore, 1))
    (kk : ∀ (H1 : Heap) (locs1 : List Loc), FW (gX g (xU X q (.inl (g.2.1.2.2.1, n, .inr (.inl (vp_updL F x.toNatClampNeg v)))))) h A σ H1 → va_S A H0 H1 locs1 → W p l e R s m args below meth c H1 locs1 cells slots Q (F0 m (pc + 1) ls rest)) : W p l e R s m args below meth c H locs cells slots Q (F0 m pc ls (.long v :: .int x :: .ref q :: rest)) := by
  obtain ⟨ws, k, hP, hD, hk, back⟩ := hW.xcut hq
  exact va_last C0.1 C0.2.1 hK.1 hP hD hS k 2 hk rfl hin hdg (fun H1 locs1 hP1 hD1 hS1 => kk H1 locs1 (back _ H1 hP1 hD1) hS1)
theorem xzl (C0 : CallFix p m c cc nL s args wB own) (hK : KW g s) (hW : FW (gX g X) h A σ H) {n : Nat} {F : Nat → Int32} (hq : X q = some (.inl (g.2.1.2.1, n, .inl F))) {x : Int32} (hin : vp_in x n) (hdg : decode cc pc = .ok (.baload, 1))
    (kk : W p l e R s m args below meth c H locs cells slots Q (F0 m (pc + 1) ls (.int (F x.toNatClampNeg) :: rest))) : W p l e R s m args below meth c H locs cells slots Q (F0 m pc ls (.int x :: .ref q :: rest)) := by
  obtain ⟨ws, k, hP, -, hk, -⟩ := hW.xcut hq
  exact va_zald C0.1 C0.2.1 hK.1 hP k 1 hk rfl hin hdg kk
theorem xzs (C0 : CallFix p m c cc nL s args wB own) (hK : KW g s) (hW : FW (gX g X) h A σ H) (hS : va_S A H0 H locs) {n : Nat} {F : Nat → Int32} (hq : X q = some (.inl (g.2.1.2.1, n, .inl F))) {x v : Int32} (hin : vp_in x n) (hdg : decode cc pc = .ok (.bastore, 1))
    (kk : ∀ (H1 : Heap) (locs1 : List Loc), FW (gX g (xU X q (.inl (g.2.1.2.1, n, .inl (upd F x.toNatClampNeg (vp_nar .boolean v)))))) h A σ H1 → va_S A H0 H1 locs1 → W p l e R s m args below meth c H1 locs1 cells slots Q (F0 m (pc + 1) ls rest)) : W p l e R s m args below meth c H locs cells slots Q (F0 m pc ls (.int v :: .int x :: .ref q :: rest)) := by
  obtain ⟨ws, k, hP, hD, hk, back⟩ := hW.xcut hq
  exact va_zast C0.1 C0.2.1 hK.1 hP hD hS k 1 hk rfl hin hdg (fun H1 locs1 hP1 hD1 hS1 => kk H1 locs1 (back _ H1 hP1 hD1) hS1)
theorem xln (C0 : CallFix p m c cc nL s args wB own) (hK : KW g s) (hW : FW (gX g X) h A σ H) (t0 : Nat) {cA : ClassId} {x : vp_A} (hq : X q = some (.inl (cA, x))) {ty : FieldType} (ht : (tysG g)[t0]? = some (cA, ty)) {v : Int32} (hv : Int32.ofNat x.1 = v) (hdg : decode cc pc = .ok (.arraylength, 1))
    (kk : W p l e R s m args below meth c H locs cells slots Q (F0 m (pc + 1) ls (.int v :: rest))) : W p l e R s m args below meth c H locs cells slots Q (F0 m pc ls (.ref q :: rest)) := by
  obtain ⟨ws, k, hP, -, hk, -⟩ := hW.xcut hq
  exact va_alen C0.1 C0.2.1 hK.1 hP k t0 hk ht hv hdg kk
theorem xrl (C0 : CallFix p m c cc nL s args wB own) (hK : KW g s) (hW : FW (gX g X) h A σ H) (t0 : Nat) {cA : ClassId} {n : Nat} {F : Nat → Option Nat} (hq : X q = some (.inl (cA, n, .inr (.inr (.inr (.inr F)))))) {ty : FieldType} (ht : (tysG g)[t0]? = some (cA, ty)) (hty : ty.isReference = true) {x : Int32} (hin : vp_in x n) (hdg : decode cc pc = .ok (.aaload, 1))
    (kk : W p l e R s m args below meth c H locs cells slots Q (F0 m (pc + 1) ls (va_rf (F x.toNatClampNeg) :: rest))) : W p l e R s m args below meth c H locs cells slots Q (F0 m pc ls (.int x :: .ref q :: rest)) := by
  have hlt : x.toNatClampNeg < n := Nat.not_le.mp fun q => hin (Or.inr q)
  have ha : H[q]? = some (vp_cell cA (n, .inr (.inr (.inr (.inr F))))) := hW.xat hq
  exact W.aald (v := va_rf (F x.toNatClampNeg)) (ty := ty) C0.1 C0.2.1 ha ((hK.1.2 t0 _ ht).1 n (fun j => va_rf (F j))) hty (fun q => by cases q) (by show ¬ (x < 0 ∨ (arrV _ _ _).slots.size ≤ _); rw [arrV_size]; exact hin) (by show (arrV _ _ _).slots[_]? = _; rw [arrV_read _ _ hlt]) rfl rfl hdg kk
/-- a reference is stored: what is wanted of the classes -/
theorem xrsG (C0 : CallFix p m c cc nL s args wB own) (hW : FW (gX g X) h A σ H) (hS : va_S A H0 H locs) {cA : ClassId} {n v : Nat} {F : Nat → Option Nat} (hq : X q = some (.inl (cA, n, .inr (.inr (.inr (.inr F)))))) {kA kV : Class} {comp : ClassId} {ty : FieldType} (k1 : s.vm.classes[cA]? = some kA) (k2 : kA.kind = .array comp ty) (k3 : ty.isReference = true) {cv : Cell} (v1 : H[v]? = some cv) (v2 : ∀ q, cv.vm ≠ .statics q) (v3 : s.vm.classes[cv.cls]? = some kV) (v4 : cv.cls = comp) {x : Int32} (hin : vp_in x n) (hdg : decode cc pc = .ok (.aastore, 1))
    (kk : ∀ (H1 : Heap) (locs1 : List Loc), FW (gX g (xU X q (.inl (cA, n, .inr (.inr (.inr (.inr (va_up F x.toNatClampNeg (some v))))))))) h A σ H1 → va_S A H0 H1 locs1 → W p l e R s m args below meth c H1 locs1 cells slots Q (F0 m (pc + 1) ls rest)) : W p l e R s m args below meth c H locs cells slots Q (F0 m pc ls (.ref v :: .int x :: .ref q :: rest)) := by
  have hlt : x.toNatClampNeg < n := Nat.not_le.mp fun q => hin (Or.inr q)
  have h0 : ¬ x < 0 := fun q => hin (Or.inl q)
  obtain ⟨ws, k, hP, hD, hk, back⟩ := hW.xcut hq
  refine W.aast C0.1 C0.2.1 (hP k _ hk) (fun q h => by cases h) (fun h => by cases h) k1 k2 k3 (by rw [← v4]; exact v3) ⟨h0, by show _ < (arrV _ _ _).slots.size; rw [arrV_size]; exact hlt⟩ v1 v2 v3 (by rw [v4]; exact as_self s comp) rfl rfl hdg fun H1 e z oq => ?_
  refine kk H1 _ (back _ H1 (hP.set hD hk ?_ oq) (hD.set hk)) (hS.put z oq (hD.2 k _ hk))
  show H1[q]? = some (vp_cell _ _)
  rw [e]
  rw [vp_cell_q, vp_cell_q, arrV_store]
  congr 2
  funext j
  by_cases hj : j = x.toNatClampNeg
  · subst hj
    simp [updV, va_up, va_rf]
  · simp [updV, va_up, hj]
/-- an array into an array of arrays -/
theorem xrsA (C0 : CallFix p m c cc nL s args wB own) (hK : KW g s) (hW : FW (gX g X) h A σ H) (hS : va_S A H0 H locs) (t0 t1 : Nat) {cA cV : ClassId} {n v : Nat} {F : Nat → Option Nat} {z : vp_A} {t : FieldType} (hq : X q = some (.inl (cA, n, .inr (.inr (.inr (.inr F)))))) (hv : X v = some (.inl (cV, z))) (ht : (tysG g)[t0]? = some (cA, .array t)) (ht1 : (tysG g)[t1]? = some (cV, t)) (hts : (FieldType.array t).toString = "[" ++ t.toString) (hno : ∀ C, t ≠ .object C) (hAO : va_AOA t s) {x : Int32} (hin : vp_in x n) (hdg : decode cc pc = .ok (.aastore, 1))
    (kk : ∀ (H1 : Heap) (locs1 : List Loc), FW (gX g (xU X q (.inl (cA, n, .inr (.inr (.inr (.inr (va_up F x.toNatClampNeg (some v))))))))) h A σ H1 → va_S A H0 H1 locs1 → W p l e R s m args below meth c H1 locs1 cells slots Q (F0 m (pc + 1) ls rest)) : W p l e R s m args below meth c H locs cells slots Q (F0 m pc ls (.ref v :: .int x :: .ref q :: rest)) := by
  obtain ⟨comp, cB, kB, f1, -, f3, f4, f5⟩ := arrayOverA_spec (va_AOA.use (A := #[]) hAO)
  have eA : cA = cB := Option.some.inj (((hK.1.2 t0 _ ht).2 : s.vm.findClass ("[" ++ (FieldType.array t).toString) = some cA).symm.trans f5)
  subst eA
  have fV : s.vm.findClass ("[" ++ t.toString) = some cV := by
    have := (hK.1.2 t1 _ ht1).2
    cases t with
    | object C => exact absurd rfl (hno C)
    | _ => exact this
  rw [hts] at f1
  have eV : cV = comp := Option.some.inj (fV.symm.trans f1)
  have hV : H[v]? = some (vp_cell cV z) := hW.xat hv
  obtain ⟨kC, hkC, -⟩ := Vm.findClass_spec fV
  have hcls : (vp_cell cV z).cls = cV := by
    obtain ⟨n9, f | f | f | f | f⟩ := z <;> rfl
  have hvm : ∀ q, (vp_cell cV z).vm ≠ .statics q := by
    obtain ⟨n9, f | f | f | f | f⟩ := z <;> (intro q h; cases h)
  exact xrsG C0 hW hS hq f3 f4 rfl hV hvm (by rw [hcls]; exact hkC) (hcls.trans eV) hin hdg kk
/-- a bird into a row of birds -/
theorem xrsO (C0 : CallFix p m c cc nL s args wB own) (hK : KW g s) (hW : FW (gX g X) h A σ H) (hS : va_S A H0 H locs) {n v : Nat} {F : Nat → Option Nat} {fs : List Value} (hq : X q = some (.inl (g.2.2.2.1 3, n, .inr (.inr (.inr (.inr F)))))) (hv : X v = some (.inr (5, fs))) {x : Int32} (hin : vp_in x n) (hdg : decode cc pc = .ok (.aastore, 1))
    (kk : ∀ (H1 : Heap) (locs1 : List Loc), FW (gX g (xU X q (.inl (g.2.2.2.1 3, n, .inr (.inr (.inr (.inr (va_up F x.toNatClampNeg (some v))))))))) h A σ H1 → va_S A H0 H1 locs1 → W p l e R s m args below meth c H1 locs1 cells slots Q (F0 m (pc + 1) ls rest)) : W p l e R s m args below meth c H locs cells slots Q (F0 m pc ls (.ref v :: .int x :: .ref q :: rest)) := by
  obtain ⟨r, hr, cv, g1, g2, g3, -⟩ := hW.xat hv
  cases hr
  have hcls := (hK.1.1 5 (RX5, TX5, 12) rfl).2
  obtain ⟨kA, comp, k1, k2, k3, -⟩ := (hK.1.2 9 (g.2.2.2.1 3, .object RX5) rfl).2
  have hcomp : comp = g.1.1 5 := Option.some.inj (k3.symm.trans hcls.1)
  subst hcomp
  obtain ⟨kC, hkC, -⟩ := hcls.2
  exact xrsG C0 hW hS hq k1 k2 rfl g1 (fun q h => by rw [g3] at h; cases h) (by rw [g2]; exact hkC) g2 hin hdg kk
theorem xno (C0 : CallFix p m c cc nL s args wB own) (hK : KW g s) (hW : FW (gX g X) h A σ H) (hS : va_S A H0 H locs) (hA : ∀ q, H0.size ≤ q → A q) {C : String} {T : u_T} {N ci index : Nat} (hin : ∀ w ∈ u_ws C T N, w ∈ wB) {ty : Nat → FieldType} (hty : ∀ k, k < N → parseFieldDescriptor (T k).2.2.1 = some (ty k)) (hcl : Cond.classLink own index C ∈ wB) (hinst : Cond.instantiable C N ∈ wB) (hini : Cond.initialized C ∈ wB) (hc : vwCl[ci]? = some (C, T, N)) {fs : List Value} (hfs : ∀ j, j < N → defaultValue (ty j) = vp_V fs j) (hcells : cells + 1 ≤ R.cells) (hslots : slots + N ≤ R.slots) (hdg : decode cc pc = .ok (.new index, 3))
    (kk : ∀ (q : Nat) (H1 : Heap), X q = none → FW (gX g (xU X q (.inr (ci, fs)))) h A σ H1 → va_S A H0 H1 locs → W p l e R s m args below meth c H1 locs (cells + 1) (slots + N) Q (F0 m (pc + 3) ls (.ref q :: rest))) : W p l e R s m args below meth c H locs cells slots Q (F0 m pc ls rest) := by
  obtain ⟨L, f, hP, hD, hR, hJ, hX⟩ := hW
  refine va_new C0.1 C0.2.1 C0.2.2.2.2 hin ty hty C0.2.2.2.1 (C0.2.2.2.2 _ hcl) (C0.2.2.2.2 _ hinst) (C0.2.2.2.2 _ hini) hK.1 hP hD hS hA hc hfs hcells hslots hdg (fun q H1 hP1 hD1 hS1 => ?_)
  obtain ⟨h1, h2⟩ := FW.xpush hR hJ hX hP1 hD1
  exact kk q H1 h2 h1 hS1
theorem xni (C0 : CallFix p m c cc nL s args wB own) (hK : KW g s) (hW : FW (gX g X) h A σ H) (hS : va_S A H0 H locs) (hA : ∀ q, H0.size ≤ q → A q) {x : Int32} {N : Nat} (hn : ¬ x < 0) (hN : x.toNatClampNeg = N) (hby : N * 4 ≤ 536870912) (hc : cells + 1 ≤ R.cells) (hs : slots + N ≤ R.slots) (hdg : decode cc pc = .ok (.newarray .int, 2))
    (kk : ∀ (q : Nat) (H1 : Heap), X q = none → FW (gX g (xU X q (.inl (g.2.1.1, N, .inl (fun _ => 0))))) h A σ H1 → va_S A H0 H1 locs → W p l e R s m args below meth c H1 locs (cells + 1) (slots + N) Q (F0 m (pc + 2) ls (.ref q :: rest))) : W p l e R s m args below meth c H locs cells slots Q (F0 m pc ls (.int x :: rest)) := by
  obtain ⟨L, f, hP, hD, hR, hJ, hX⟩ := hW
  refine va_newa (atype := .int) (ty := .int) C0.1 C0.2.1 (C0.2.2.2.2 _ warrayClass__int) rfl hK.1 hP hD hS hA (a0 := (N, .inl (fun _ => 0))) (fun cA => rfl) hn hN hby hc hs hdg (fun q cA H1 hK1 hP1 hD1 hS1 => ?_)
  have hcy : cA = g.2.1.1 := cyI_eq hK (hK1.2 10 (cA, .int) rfl).2
  subst hcy
  obtain ⟨h1, h2⟩ := FW.xpush hR hJ hX hP1 hD1
  exact kk q H1 h2 h1 hS1
theorem xnl (C0 : CallFix p m c cc nL s args wB own) (hK : KW g s) (hW : FW (gX g X) h A σ H) (hS : va_S A H0 H locs) (hA : ∀ q, H0.size ≤ q → A q) {x : Int32} {N : Nat} (hn : ¬ x < 0) (hN : x.toNatClampNeg = N) (hby : N * 8 ≤ 536870912) (hc : cells + 1 ≤ R.cells) (hs : slots + N ≤ R.slots) (hdg : decode cc pc = .ok (.newarray .long, 2))
    (kk : ∀ (q : Nat) (H1 : Heap), X q = none → FW (gX g (xU X q (.inl (g.2.1.2.2.1, N, .inr (.inl (fun _ => 0)))))) h A σ H1 → va_S A H0 H1 locs → W p l e R s m args below meth c H1 locs (cells + 1) (slots + N) Q (F0 m (pc + 2) ls (.ref q :: rest))) : W p l e R s m args below meth c H locs cells slots Q (F0 m pc ls (.int x :: rest)) := by
  obtain ⟨L, f, hP, hD, hR, hJ, hX⟩ := hW
  refine va_newa (atype := .long) (ty := .long) C0.1 C0.2.1 (C0.2.2.2.2 _ warrayClass__long) rfl hK.1 hP hD hS hA (a0 := (N, .inr (.inl (fun _ => 0)))) (fun cA => rfl) hn hN hby hc hs hdg (fun q cA H1 hK1 hP1 hD1 hS1 => ?_)
  have hcy : cA = g.2.1.2.2.1 := cyJ_eq hK (hK1.2 10 (cA, .long) rfl).2
  subst hcy
  obtain ⟨h1, h2⟩ := FW.xpush hR hJ hX hP1 hD1
  exact kk q H1 h2 h1 hS1
/-- new int[n][] -/
theorem xna (C0 : CallFix p m c cc nL s args wB own) (hK : KW g s) (hW : FW (gX g X) h A σ H) (hS : va_S A H0 H locs) (hA : ∀ q, H0.size ≤ q → A q) {index : Nat} (hcl : Cond.classLink own index "[I" ∈ wB) {x : Int32} {N : Nat} (hn : ¬ x < 0) (hN : x.toNatClampNeg = N) (hby : N * 4 ≤ 536870912) (hc : cells + 1 ≤ R.cells) (hs : slots + N ≤ R.slots) (hdg : decode cc pc = .ok (.anewarray index, 3))
    (kk : ∀ (q : Nat) (H1 : Heap), X q = none → FW (gX g (xU X q (.inl (g.2.2.2.1 0, N, .inr (.inr (.inr (.inr (fun _ => none)))))))) h A σ H1 → va_S A H0 H1 locs → W p l e R s m args below meth c H1 locs (cells + 1) (slots + N) Q (F0 m (pc + 3) ls (.ref q :: rest))) : W p l e R s m args below meth c H locs cells slots Q (F0 m pc ls (.int x :: rest)) := by
  subst hN
  obtain ⟨L, f, hP, hD, hR, hJ, hX⟩ := hW
  have hcl' : Cond.classLink own index (FieldType.array .int).toString ∈ wB := hcl
  refine W.anewA C0.1 C0.2.1 C0.2.2.2.1 (C0.2.2.2.2 _ hcl') (va_AOA.use hK.2.2.2.2.2.2.1) rfl hdg rfl hn hby hc hs fun cA kA comp f1 f2 f3 f4 => ?_
  have hcy : cA = g.2.2.2.1 0 := Option.some.inj (f1.symm.trans (hK.1.2 6 (g.2.2.2.1 0, .array .int) rfl).2)
  subst hcy
  generalize hH1 : H.push ({ cls := g.2.2.2.1 0, slots := Array.replicate x.toNatClampNeg .null, vm := .none } : Cell) = H1
  have z1 : H1.size = H.size + 1 := by rw [← hH1, Array.size_push]
  have e1 : H1[H.size]? = some (arrV (g.2.2.2.1 0) x.toNatClampNeg (fun _ => .null)) := by rw [← hH1, Array.getElem?_push_size, ← arrV_new]
  have o1 : ∀ q : Nat, q < H.size → H1[q]? = H[q]? := fun q hq => by rw [← hH1, Array.getElem?_push, if_neg (Nat.ne_of_lt hq)]
  have hP : va_P g.1 vwCl (va_pl L f) H := hP
  have hk : ∀ (k : Nat) (x : Nat × va_E), (va_pl L f)[k]? = some x → H1[x.1]? = H[x.1]? := fun k x hx => o1 x.1 ((hP k x hx).lt)
  have hP1 : va_P g.1 vwCl (va_pl L f ++ [(H.size, .inl (g.2.2.2.1 0, x.toNatClampNeg, .inr (.inr (.inr (.inr (fun _ => none))))))]) H1 := (hP.kept hk).app (fun k y hy => by
    have hz : k < 1 := (List.getElem?_eq_some_iff.mp hy).1
    rw [show k = 0 by omega] at hy
    cases hy
    show H1[H.size]? = some (vp_cell _ _)
    rw [vp_cell_q]
    exact e1)
  have hD1 : va_D A (va_pl L f ++ [(H.size, .inl (g.2.2.2.1 0, x.toNatClampNeg, .inr (.inr (.inr (.inr (fun _ => none))))))]) := hD.push hP rfl (hA _ hS.1)
  obtain ⟨h1, h2⟩ := FW.xpush hR hJ hX hP1 hD1
  exact kk H.size H1 h2 h1 ⟨Nat.le_trans hS.1 (by omega), fun x h1 h2 => (o1 x (Nat.lt_of_lt_of_le h1 hS.1)).trans (hS.2.1 x h1 h2), hS.2.2⟩
/-- new Bird[n] -/
theorem xnb (C0 : CallFix p m c cc nL s args wB own) (hK : KW g s) (hW : FW (gX g X) h A σ H) (hS : va_S A H0 H locs) (hA : ∀ q, H0.size ≤ q → A q) {index : Nat} (hcl : Cond.classLink own index RX5 ∈ wB) {x : Int32} {N : Nat} (hn : ¬ x < 0) (hN : x.toNatClampNeg = N) (hby : N * 4 ≤ 536870912) (hc : cells + 1 ≤ R.cells) (hs : slots + N ≤ R.slots) (hdg : decode cc pc = .ok (.anewarray index, 3))
    (kk : ∀ (q : Nat) (H1 : Heap), X q = none → FW (gX g (xU X q (.inl (g.2.2.2.1 3, N, .inr (.inr (.inr (.inr (fun _ => none)))))))) h A σ H1 → va_S A H0 H1 locs → W p l e R s m args below meth c H1 locs (cells + 1) (slots + N) Q (F0 m (pc + 3) ls (.ref q :: rest))) : W p l e R s m args below meth c H locs cells slots Q (F0 m pc ls (.int x :: rest)) := by
  obtain ⟨L, f, hP, hD, hR, hJ, hX⟩ := hW
  refine va_newq C0.1 C0.2.1 C0.2.2.2.1 (C0.2.2.2.2 _ hcl) hK.2.2.2.2.2.1 hK.1 hP hD hS hA hn hN hby hc hs hdg (fun q cA H1 hK1 hP1 hD1 hS1 => ?_)
  have hcy : cA = g.2.2.2.1 3 := by
    obtain ⟨_, _, _, _, _, a⟩ := (hK1.2 10 (cA, .object RX5) rfl).2
    obtain ⟨_, _, _, _, _, b⟩ := (hK.1.2 9 (g.2.2.2.1 3, .object RX5) rfl).2
    exact Option.some.inj (a.symm.trans b)
  subst hcy
  obtain ⟨h1, h2⟩ := FW.xpush hR hJ hX hP1 hD1
  exact kk q H1 h2 h1 hS1
/-- new T[n][k]: k places each -/
theorem xnm (C0 : CallFix p m c cc nL s args wB own) (hK : KW g s) (hW : FW (gX g X) h A σ H) (hS : va_S A H0 H locs) (hA : ∀ q, H0.size ≤ q → A q) (t0 : Nat) {index : Nat} {ty : FieldType} {cy cO : ClassId} (hcl : Cond.classLink own index ("[" ++ (FieldType.array ty).toString) ∈ wB) (hover : va_AOA ty s) (harr : (Cond.arrayClass ty).before args s = true) (hcy : s.vm.findClass (FieldType.array ty).toString = some cy) (ht : (tysG g)[t0]? = some (cO, .array ty)) {n k : Int32} {N' K' : Nat} {z : vp_A} (hn : ¬ n < 0) (hk : ¬ k < 0) (hN : n.toNatClampNeg = N') (hM : k.toNatClampNeg = K')
    (hb1 : N' * 4 ≤ 536870912) (hb2 : K' * componentBytes ty ≤ 536870912) (hb3 : K' ≤ 536870912) (hdf : fits ty (defaultValue ty) = true) (hdd : (defaultValue ty).isDefault = true) (hcells : cells + (1 + N') ≤ R.cells) (hslots : slots + (N' + N' * K') ≤ R.slots) (hz : ∀ c : ClassId, Jvm.Free.Multi.innerC c K' (defaultValue ty) = vp_cell c z) (hdg : decode cc pc = .ok (.multianewarray index 2, 4))
    (kk : ∀ (q : Nat) (r : Nat → Nat) (X' : Nat → Option va_E) (H1 : Heap), X q = none → (∀ i, i < N' → X (r i) = none ∧ r i ≠ q) → (∀ i j : Nat, i < N' → j < N' → r i = r j → i = j) → (∀ a e, X a = some e → X' a = some e) → X' q = some (.inl (cO, N', .inr (.inr (.inr (.inr (fun i => if i < N' then some (r i) else none)))))) → (∀ i, i < N' → X' (r i) = some (.inl (cy, z))) → FW (gX g X') h A σ H1 → va_S A H0 H1 locs →
      W p l e R s m args below meth c H1 locs (cells + 1 + N') (slots + N' + N' * K') Q (F0 m (pc + 4) ls (.ref q :: rest))) : W p l e R s m args below meth c H locs cells slots Q (F0 m pc ls (.int k :: .int n :: rest)) := by
  obtain ⟨L, f, hP, hD, hR, hJ, hX⟩ := hW
  refine va_mna (X := []) (L := L) (f := f) C0.1 C0.2.1 C0.2.2.2.1 (C0.2.2.2.2 _ hcl) hover harr hcy hK.1 hP hD hS hA hn hk hN hM hb1 hb2 hb3 hdf hdd hcells hslots hz hdg (fun q r cA H1 hri hrL hK1 hP1 hD1 hS1 => ?_)
  have hcO : cA = cO := by
    have a : s.vm.findClass ("[" ++ (FieldType.array ty).toString) = some cA := (hK1.2 10 (cA, .array ty) rfl).2
    have b : s.vm.findClass ("[" ++ (FieldType.array ty).toString) = some cO := (hK.1.2 t0 _ ht).2
    exact Option.some.inj (a.symm.trans b)
  subst hcO
  obtain ⟨L2, e2⟩ : ∃ L2, L2 = L ++ (List.range N').map r := ⟨_, rfl⟩
  obtain ⟨f2, ef⟩ : ∃ f2, f2 = vr_up f ((List.range N').map r) (.inl (cy, z)) := ⟨_, rfl⟩
  rw [← e2, ← ef] at hP1 hD1
  have mr : ∀ i, i < N' → r i ∈ (List.range N').map r := fun i hi => List.mem_map.mpr ⟨i, List.mem_range.mpr hi, rfl⟩
  have nr : ∀ a, a ∈ L → a ∉ (List.range N').map r := fun a ha q => by
    obtain ⟨i, hi, rfl⟩ := List.mem_map.mp q
    exact hrL i (List.mem_range.mp hi) ha
  have hL2 : ∀ a, a ∈ L → a ∈ L2 := fun a ha => by rw [e2]; exact List.mem_append_left _ ha
  have hf2 : ∀ a, a ∈ L → f2 a = f a := fun a ha => by rw [ef]; exact vr_up_ne (nr a ha)
  obtain ⟨eq, he⟩ : ∃ eq : va_E, eq = .inl (cA, N', .inr (.inr (.inr (.inr (fun i => if i < N' then some (r i) else none))))) := ⟨_, rfl⟩
  rw [← he] at hP1 hD1
  have hP2 : va_P g.1 vwCl (va_pl L2 f2 ++ [(q, eq)]) H1 := va_P.swap (a := []) hP1
  have hD2 : va_D A (va_pl L2 f2 ++ [(q, eq)]) := va_D.swap (a := []) hD1
  have hq2 : q ∉ L2 := va_pl_fresh2 (X := []) hD2
  rw [va_pl_push hq2] at hP2 hD2
  have hne : ∀ a, a ∈ L2 → a ≠ q := fun a ha z => hq2 (z ▸ ha)
  have rL2 : ∀ i, i < N' → r i ∈ L2 := fun i hi => by rw [e2]; exact List.mem_append_right _ (mr i hi)
  have Xn : ∀ a, a ∉ L → X a = none := fun a ha => by
    cases hx : X a with
    | none => rfl
    | some e9 => exact absurd (hX a e9 hx).1 ha
  refine kk q r (fun a => if a = q then some eq else if a ∈ (List.range N').map r then some (.inl (cy, z)) else X a) H1 (Xn q (fun z => hq2 (hL2 q z))) (fun i hi => ⟨Xn _ (hrL i hi), hne _ (rL2 i hi)⟩) hri (fun a e9 ha => ?_) ((if_pos rfl).trans (congrArg some he)) (fun i hi => (if_neg (hne _ (rL2 i hi))).trans (if_pos (mr i hi))) ⟨L2 ++ [q], _, hP2, hD2, fun k i ha => ⟨List.mem_append_left _ (hL2 _ (hR k i ha).1), ?_⟩, hJ, fun a e9 ha => ?_⟩ hS1
  · have hm := (hX a e9 ha).1
    show (if a = q then some eq else if a ∈ (List.range N').map r then some (.inl (cy, z)) else X a) = some e9
    rw [if_neg (hne _ (hL2 _ hm)), if_neg (nr a hm)]
    exact ha
  · have hm := (hR k i ha).1
    rw [va_up_ne _ _ (hne _ (hL2 _ hm)), hf2 _ hm]
    exact (hR k i ha).2
  · have ha : (if a = q then some eq else if a ∈ (List.range N').map r then some (.inl (cy, z)) else X a) = some e9 := ha
    by_cases h1 : a = q
    · rw [if_pos h1] at ha
      cases ha
      subst h1
      exact ⟨List.mem_append_right _ (List.mem_singleton.mpr rfl), va_up_self _ _ _, fun k i hk9 => hne _ (hL2 _ (hR k i hk9).1)⟩
    · rw [if_neg h1] at ha
      by_cases h2 : a ∈ (List.range N').map r
      · rw [if_pos h2] at ha
        cases ha
        refine ⟨List.mem_append_left _ (by rw [e2]; exact List.mem_append_right _ h2), by rw [va_up_ne _ _ h1, ef]; exact vr_up_in h2, fun k i hk9 z => nr _ (hR k i hk9).1 (z ▸ h2)⟩
      · rw [if_neg h2] at ha
        obtain ⟨g1, g2, g3⟩ := hX a e9 ha
        exact ⟨List.mem_append_left _ (hL2 a g1), by rw [va_up_ne _ _ h1, hf2 a g1]; exact g2, g3⟩
end XR
