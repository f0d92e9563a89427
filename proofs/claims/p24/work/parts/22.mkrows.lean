section MR
variable {p : Program} {l : Launch} {e : Env} {R : Room} {s : State} {m : MethodId} {args : Array Value} {below : List Frame} {meth : Method} {c : Code} {H : Heap} {locs : List Loc} {cells slots : Nat} {Q : State → Prop}
variable {cc bytes : ByteArray} {pc nL maxL index n lo mc ms fr lw : Nat} {ls : Array Slot} {rest st0 As : List Value} {own C : String} {g : Gx} {h : Sh} {σ σ1 : Sg} {y : MethodName} {ret : Option FieldType} {b : Nat} {Qc : Array Value → State → Outcome → State → Prop} {A : Nat → Prop} {H0 : Heap} {cf : Nat → Nat → va_E} {wc ws : va_W}
theorem FX.P1 (hX : FX g h A cf ws H) : va_P g.1 vwCl ws H := by
  obtain ⟨L, f, hP, -⟩ := hX
  exact va_P_right hP
theorem FX.D1 (hX : FX g h A cf ws H) : va_D A ws := by
  obtain ⟨L, f, -, hD, -⟩ := hX
  refine ⟨fun i j x z hi hj hxz => ?_, fun k x hk => ?_⟩
  · have := hD.1 ((va_pl L f).length + i) ((va_pl L f).length + j) x z (by rw [List.getElem?_append_right (by omega), Nat.add_sub_cancel_left]; exact hi) (by rw [List.getElem?_append_right (by omega), Nat.add_sub_cancel_left]; exact hj) hxz
    omega
  · exact hD.2 ((va_pl L f).length + k) x (by rw [List.getElem?_append_right (by omega), Nat.add_sub_cancel_left]; exact hk)
theorem FX.free (hX : FX g h (Ax lo) cf ws H) (hlo : lo ≤ s.heap.size) (hS : va_S (Ax lo) s.heap H locs) : ∀ z, va_A ws H.size z → Ax lo z := by
  intro z hz
  rcases hz with ⟨k, e, hk⟩ | hz
  · exact hX.D1.2 k _ hk
  · exact Nat.le_trans hlo (Nat.le_trans hS.1 hz)
theorem runC (C0 : CallFix p m c cc nL s args wB own) (hK : KW g s) (hX : FX g h A cf wc H)
    (hM : Met l y (ws_ y bytes maxL none) { frames := fr, cells := mc, slots := ms, locals := lw } (va_Pc (.ref b :: As) (WL H.size g wc)) Qc mc ms (va_A wc H.size))
    (hy : y.name = "<init>") (hco : Cond.code y bytes maxL none ∈ wB) (h1 : Cond.methodLink own index y ∈ wB) (h2 : Cond.instanceMethod y ∈ wB) (h4 : Cond.initialized y.cls ∈ wB)
    (hd : y.cls ≠ "java/lang/invoke/MethodHandle" ∧ y.cls ≠ "java/lang/invoke/VarHandle" ∧ (parseMethodDescriptor y.desc).map (fun d => d.parameters.length) = some n) (hR : fr + 1 ≤ R.frames ∧ 8 + (maxL + 11) + lw ≤ R.locals)
    (hn : As.length = n) (hsize : ls.size = nL) (hst : st0 = As.reverse ++ .ref b :: rest) (hrm : (rest.map fun v => v.category).sum ≤ 8) (hdg : decode cc pc = .ok (.invokespecial index, 3)) (hf : cells + mc ≤ R.cells ∧ slots + ms ≤ R.slots) :
    va_Run p l e R s m args below meth c H locs cells slots mc ms (F0 m pc ls st0) rest (Qc (Value.ref b :: As).toArray) (va_A wc H.size) :=
  va_runI (As := As) (rest := rest) C0 hM (cwI n C0.2.2.2.2 (ws_good hco) rfl rfl rfl (C0.2.2.2.2 _ h4) (C0.2.2.2.2 _ h1) (C0.2.2.2.2 _ h2) hy hd hR) ⟨WL.blind, fun U hU hw => ⟨rfl, by rw [hU], by rw [hU]; exact hX.P1, hX.D1.weaken (fun _ _ _ _ => trivial), hK.warm hw⟩⟩ rfl hn hsize hst (lv_room hrm) hdg hf
theorem inC {a : Array Value} {w1 : (Nat → Nat) → va_W} (hr : va_Run p l e R s m args below meth c H locs cells slots mc ms (F0 m pc ls st0) rest (va_Qv (fun (_ : Nat → Nat) => True) (fun u t => va_P g.1 vwCl (w1 u) t.heap ∧ va_D (va_A wc H.size) (w1 u)) (va_A wc H.size) a) (va_A wc H.size)) (hX : FX g h (Ax lo) cf wc H) (hlo : lo ≤ s.heap.size) (hS : va_S (Ax lo) s.heap H locs)
    (kk : ∀ (u : Nat → Nat) (H1 : Heap) (locs1 : List Loc), FX g h (Ax lo) cf (w1 u) H1 → va_S (Ax lo) s.heap H1 locs1 → W p l e R s m args below meth c H1 locs1 (cells + mc) (slots + ms) Q (F0 m (pc + 3) ls rest)) : W p l e R s m args below meth c H locs cells slots Q (F0 m pc ls st0) :=
  va_callv hr hS (fun q _ z => hX.free hlo hS q z) (hX.free hlo hS) (fun u t H1 locs1 ht hvm hw hB hz hk hS1 => by
    subst ht
    exact kk u _ _ (hX.join hk (hX.free hlo hS) hB.1 hB.2) hS1)
theorem astX (C0 : CallFix p m c cc nL s args wB own) (hK : KW g s) (hX : FX g h A cf ws H) (hS : va_S A H0 H locs) (kr ta : Nat) (har : al h kr 0) {cA : ClassId} {N : Nat} {f : Nat → Option Nat} (hcf : cf kr 0 = .inl (cA, N, .inr (.inr (.inr (.inr f))))) {r : vw_C} (ht : (tysG g)[ta]? = some (cA, .object r.1)) (j : Nat) {v ci : Nat} {vs : List Value} (hv : ws[j]? = some (v, .inr (ci, vs))) (hc : vwCl[ci]? = some r) {x : Int32} (hin : vp_in x N) (hdg : decode cc pc = .ok (.aastore, 1))
    (kk : ∀ (H1 : Heap) (locs1 : List Loc), FX g h A (fun k i => if k = kr ∧ i = 0 then .inl (cA, N, .inr (.inr (.inr (.inr (va_up f x.toNatClampNeg (some v)))))) else cf k i) ws H1 → va_S A H0 H1 locs1 → W p l e R s m args below meth c H1 locs1 cells slots Q (F0 m (pc + 1) ls rest)) : W p l e R s m args below meth c H locs cells slots Q (F0 m pc ls (.ref v :: .int x :: .ref (h.2.2 kr 0) :: rest)) := by
  obtain ⟨L, f0, hP, hD, hR, hJ, hXw⟩ := hX
  obtain ⟨k, hk⟩ := va_pl_get (X := []) (f := f0) (hR kr 0 har).1
  have hk : (va_pl L f0)[k]? = some (h.2.2 kr 0, f0 (h.2.2 kr 0)) := hk
  have hlt := (List.getElem?_eq_some_iff.mp hk).1
  have ha : (va_pl L f0 ++ ws)[k]? = some (h.2.2 kr 0, .inl (cA, N, .inr (.inr (.inr (.inr f))))) := by
    rw [List.getElem?_append_left hlt, hk, (hR kr 0 har).2, hcf]
  have hv2 : (va_pl L f0 ++ ws)[(va_pl L f0).length + j]? = some (v, .inr (ci, vs)) := by rw [List.getElem?_append_right (by omega), Nat.add_sub_cancel_left]; exact hv
  refine va_astq C0.1 C0.2.1 hK.1 hP hD hS k ta _ ci ha ht hv2 hc hin hdg (fun H1 locs1 hP1 hD1 hS1 => ?_)
  have e : (va_pl L f0 ++ ws).set k (h.2.2 kr 0, .inl (cA, N, .inr (.inr (.inr (.inr (va_up f x.toNatClampNeg (some v))))))) = va_pl L (va_up f0 (h.2.2 kr 0) (.inl (cA, N, .inr (.inr (.inr (.inr (va_up f x.toNatClampNeg (some v)))))))) ++ ws := by
    rw [List.set_append_left _ _ hlt]
    congr 1
    exact va_pl_set (X := []) (va_D_left hD) (hR kr 0 har).1 hk
  rw [e] at hP1 hD1
  refine kk H1 locs1 ⟨L, _, hP1, hD1, fun k' i' ha' => ⟨(hR k' i' ha').1, ?_⟩, hJ, fun z e9 hz => ⟨(hXw z e9 hz).1, by rw [va_up_ne _ _ (Ne.symm ((hXw z e9 hz).2.2 kr 0 har))]; exact (hXw z e9 hz).2.1, (hXw z e9 hz).2.2⟩⟩ hS1
  show _ = (if k' = kr ∧ i' = 0 then _ else _)
  by_cases hx : k' = kr ∧ i' = 0
  · rw [if_pos hx]
    obtain ⟨rfl, rfl⟩ := hx
    exact va_up_self _ _ _
  · rw [if_neg hx]
    have hn : h.2.2 k' i' ≠ h.2.2 kr 0 := fun q => hx (hJ k' i' kr 0 ha' har q)
    rw [va_up_ne _ _ hn]
    exact (hR k' i' ha').2
theorem retIg {S : Type} {B : S → State → Prop} {r : Int32} (u : S) (C0 : CallFix p m c cc nL s args wB own) (hr : meth.sig.returnType = some .int) (hlk : meth.locks = false) (hB : ∀ t : State, t.heap = H → B u t) (hS : va_S (Ax lo) s.heap H locs) (hdg : decode cc pc = .ok (.ireturn, 1)) :
    W p l e R s m args below meth c H locs cells slots (MQ below (va_Qi (fun (r' : Int32) (_ : S) => r' = r) B (Ax lo)) args s cells slots (Ax lo)) (F0 m pc ls [.int r]) :=
  W.iret C0.1 C0.2.1 hr (fun t ht hw => ⟨⟨r, u, rfl, rfl, hB t ht⟩, hS.F ht⟩) hS.2.2 hdg hlk
end MR
