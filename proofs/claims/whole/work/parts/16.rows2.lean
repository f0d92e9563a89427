/-! a row that is made, filled, copied and forgotten; copies between rows; the count of what a tick makes -/
def sC (σ : Sg) (k : Nat) (F : Nat → Int32) : Sg := (fun k' i' f' => if k' = k ∧ i' = 0 then F f' else σ.1 k' i' f', σ.2)
theorem sC_off {σ : Sg} {k : Nat} {F : Nat → Int32} (k' i' : Nat) (h : k' ≠ k ∨ i' ≠ 0) : (sC σ k F).1 k' i' = σ.1 k' i' ∧ (sC σ k F).2 k' i' = σ.2 k' i' :=
  ⟨funext fun f' => if_neg (fun q => h.elim (fun z => z q.1) (fun z => z q.2)), rfl⟩
theorem sC_on (σ : Sg) (k : Nat) (F : Nat → Int32) : (sC σ k F).1 k 0 = F := by
  funext j; simp [sC]
def kN (σ : Sg) : Nat := (σ.1 20 0 11).toNatClampNeg
/-- the world with a row of its own beside, at q -/
def FT (g : Gx) (h : Sh) (A : Nat → Prop) (σ : Sg) (q n : Nat) (F : Nat → Int32) (H : Heap) : Prop :=
  ∃ (L : List Nat) (f : Nat → va_E), va_P g.1 vwCl (va_pl L f) H ∧ va_D A (va_pl L f) ∧ (∀ k i, al h k i → h.2.2 k i ∈ L ∧ f (h.2.2 k i) = ct g h σ k i) ∧ (∀ k i k' i', al h k i → al h k' i' → h.2.2 k i = h.2.2 k' i' → k = k' ∧ i = i') ∧ q ∈ L ∧ f q = .inl (g.2.1.1, n, .inl F) ∧ ∀ k i, al h k i → h.2.2 k i ≠ q
theorem FT.W {g : Gx} {h : Sh} {A : Nat → Prop} {σ : Sg} {q n : Nat} {F : Nat → Int32} {H : Heap} (hT : FT g h A σ q n F H) : FW g h A σ H := by
  obtain ⟨L, f, hP, hD, hR, hJ, -⟩ := hT
  exact ⟨L, f, hP, hD, hR, hJ⟩
section RT
variable {p : Program} {l : Launch} {e : Env} {R : Room} {s : State} {m : MethodId} {args : Array Value} {below : List Frame} {meth : Method} {c : Code} {H : Heap} {locs : List Loc} {cells slots : Nat} {Q : State → Prop}
variable {cc bytes : ByteArray} {pc nL maxL index n lo mc ms fr lw : Nat} {ls : Array Slot} {rest st0 As : List Value} {own C : String} {g : Gx} {h : Sh} {σ σ1 : Sg} {y : MethodName} {ret : Option FieldType} {b : Nat} {Qc : Array Value → State → Outcome → State → Prop} {A : Nat → Prop} {H0 : Heap}
theorem cyI_eq (hK : KW g s) {cA : ClassId} (h1 : va_RA s cA .int) : cA = g.2.1.1 := by
  have h2 := (hK.1.2 0 (g.2.1.1, .int) rfl).2
  exact Option.some.inj (h1.symm.trans h2)
theorem newT (C0 : CallFix p m c cc nL s args wB own) (hK : KW g s) (hW : FW g h A σ H) (hS : va_S A H0 H locs) (hA : ∀ q, H0.size ≤ q → A q) {x : Int32} {N : Nat} (hn : ¬ x < 0) (hN : x.toNatClampNeg = N) (hby : N * 4 ≤ 536870912) (hc : cells + 1 ≤ R.cells) (hs : slots + N ≤ R.slots) (hdg : decode cc pc = .ok (.newarray .int, 2))
    (kk : ∀ (q : Nat) (H1 : Heap), FT g h A σ q N (fun _ => 0) H1 → va_S A H0 H1 locs → W p l e R s m args below meth c H1 locs (cells + 1) (slots + N) Q (F0 m (pc + 2) ls (.ref q :: rest))) : W p l e R s m args below meth c H locs cells slots Q (F0 m pc ls (.int x :: rest)) := by
  obtain ⟨L, f, hP, hD, hR, hJ⟩ := hW
  refine va_newa (atype := .int) (ty := .int) C0.1 C0.2.1 (C0.2.2.2.2 _ warrayClass__int) rfl hK.1 hP hD hS hA (a0 := (N, .inl (fun _ => 0))) (fun cA => rfl) hn hN hby hc hs hdg (fun q cA H1 hK1 hP1 hD1 hS1 => ?_)
  have hcy : cA = g.2.1.1 := cyI_eq hK (hK1.2 6 (cA, .int) (by rfl)).2
  subst hcy
  have hq : q ∉ L := va_pl_fresh2 (X := []) hD1
  rw [va_pl_push hq] at hP1 hD1
  have hne : ∀ a, a ∈ L → a ≠ q := fun a ha z => hq (z ▸ ha)
  refine kk q H1 ⟨L ++ [q], _, hP1, hD1, fun k i ha => ⟨List.mem_append_left _ (hR k i ha).1, ?_⟩, hJ, List.mem_append_right _ (List.mem_singleton.mpr rfl), va_up_self _ _ _, fun k i ha => hne _ (hR k i ha).1⟩ hS1
  rw [va_up_ne _ _ (hne _ (hR k i ha).1)]
  exact (hR k i ha).2
theorem astT (C0 : CallFix p m c cc nL s args wB own) (hK : KW g s) {q N : Nat} {F : Nat → Int32} (hT : FT g h A σ q N F H) (hS : va_S A H0 H locs) {x v : Int32} (hin : vp_in x N) (hdg : decode cc pc = .ok (.iastore, 1))
    (kk : ∀ (H1 : Heap) (locs1 : List Loc), FT g h A σ q N (upd F x.toNatClampNeg v) H1 → va_S A H0 H1 locs1 → W p l e R s m args below meth c H1 locs1 cells slots Q (F0 m (pc + 1) ls rest)) : W p l e R s m args below meth c H locs cells slots Q (F0 m pc ls (.int v :: .int x :: .ref q :: rest)) := by
  obtain ⟨L, f, hP, hD, hR, hJ, hq, hf, hne⟩ := hT
  obtain ⟨k, hk⟩ := va_pl_get (X := []) (f := f) hq
  have hk2 : (va_pl L f)[k]? = some (q, .inl (g.2.1.1, N, .inl F)) := by rw [← hf]; exact hk
  refine va_iast C0.1 C0.2.1 hK.1 hP hD hS k 0 hk2 rfl hin hdg (fun H1 locs1 hP1 hD1 hS1 => ?_)
  have e : (va_pl L f).set k (q, .inl (g.2.1.1, N, .inl (upd F x.toNatClampNeg v))) = va_pl L (va_up f q (.inl (g.2.1.1, N, .inl (upd F x.toNatClampNeg v)))) := va_pl_set (X := []) hD hq hk
  rw [e] at hP1 hD1
  refine kk H1 locs1 ⟨L, _, hP1, hD1, fun k' i' ha => ⟨(hR k' i' ha).1, ?_⟩, hJ, hq, va_up_self _ _ _, hne⟩ hS1
  rw [va_up_ne _ _ (hne k' i' ha)]
  exact (hR k' i' ha).2
theorem cpyT (C0 : CallFix p m c cc nL s args wB own) (hK : KW g s) {q N : Nat} {F : Nat → Int32} (hT : FT g h A σ q N F H) (hS : va_S A H0 H locs) (hsz : ls.size = nL) (k : Nat) (ha : al h k 0) (hk : aln k ≠ 0) (hl : Cond.methodLink own index arraycopyName ∈ wB) {sp dp x : Int32} (h1 : ¬ sp < 0) (h2 : ¬ dp < 0) (h3 : ¬ x < 0) (h4 : sp.toNatClampNeg + x.toNatClampNeg ≤ N) (h5 : dp.toNatClampNeg + x.toNatClampNeg ≤ aln k)
    (hfr : 1 ≤ R.frames) (hlw : (rest.map fun v => v.category).sum + (nativeFrameWords "java/lang/System" "arraycopy" 5 + 11) ≤ R.locals) (hdg : decode cc pc = .ok (.invokestatic index, 3))
    (kk : ∀ (H1 : Heap) (locs1 : List Loc), FW g h A (sC σ k (va_cpy F (σ.1 k 0) sp.toNatClampNeg dp.toNatClampNeg x.toNatClampNeg)) H1 → va_S A H0 H1 locs1 → W p l e R s m args below meth c H1 locs1 cells slots Q (F0 m (pc + 3) ls rest)) : W p l e R s m args below meth c H locs cells slots Q (F0 m pc ls (.int x :: .int dp :: .ref (h.2.2 k 0) :: .int sp :: .ref q :: rest)) := by
  have hnat : (Cond.native arraycopyName).before args s = true := va_Nw.use rfl hK.2.2.2.2.2.2.1
  obtain ⟨L, f, hP, hD, hR, hJ, hq, hf, hne⟩ := hT
  obtain ⟨kq, hkq⟩ := va_pl_get (X := []) (f := f) hq
  have hkq2 : (va_pl L f)[kq]? = some (q, .inl (g.2.1.1, N, .inl F)) := by rw [← hf]; exact hkq
  obtain ⟨kr, hkr⟩ := va_pl_get (X := []) (f := f) (hR k 0 ha).1
  have hkr2 : (va_pl L f)[kr]? = some (h.2.2 k 0, .inl (g.2.1.1, aln k, .inl (σ.1 k 0))) := by
    rw [← (show ct g h σ k 0 = .inl (g.2.1.1, aln k, .inl (σ.1 k 0)) from if_pos hk), ← (hR k 0 ha).2]; exact hkr
  refine va_copyi C0.1 C0.2.1 (C0.2.2.1.trans hsz.symm) C0.2.2.2.1 (C0.2.2.2.2 _ hl) hnat (C0.2.2.2.2 _ wST_java_lang_System_arraycopy__Ljava_lang_Object_ILjava_lang_Object_II_V) (C0.2.2.2.2 _ wIN_J10) hK.1 hP hD hS kq kr 0 0 hkq2 hkr2 rfl rfl rfl h1 h2 h3 h4 h5 (fun i hi => rfl) hfr hlw hdg (fun H1 locs1 hP1 hD1 hS1 => ?_)
  have e : (va_pl L f).set kr (h.2.2 k 0, .inl (g.2.1.1, aln k, .inl (va_cpy F (σ.1 k 0) sp.toNatClampNeg dp.toNatClampNeg x.toNatClampNeg))) = va_pl L (va_up f (h.2.2 k 0) (.inl (g.2.1.1, aln k, .inl (va_cpy F (σ.1 k 0) sp.toNatClampNeg dp.toNatClampNeg x.toNatClampNeg)))) := va_pl_set (X := []) hD (hR k 0 ha).1 hkr
  rw [e] at hP1 hD1
  refine kk H1 locs1 ⟨L, _, hP1, hD1, fun k' i' ha' => ⟨(hR k' i' ha').1, ?_⟩, hJ⟩ hS1
  by_cases hx : k' = k ∧ i' = 0
  · obtain ⟨rfl, rfl⟩ := hx
    rw [va_up_self, (show ct g h (sC σ k' (va_cpy F (σ.1 k' 0) sp.toNatClampNeg dp.toNatClampNeg x.toNatClampNeg)) k' 0 = .inl (g.2.1.1, aln k', .inl ((sC σ k' (va_cpy F (σ.1 k' 0) sp.toNatClampNeg dp.toNatClampNeg x.toNatClampNeg)).1 k' 0)) from if_pos hk), sC_on]
  · have hn : h.2.2 k' i' ≠ h.2.2 k 0 := fun q => hx (hJ k' i' k 0 ha' ha q)
    rw [va_up_ne _ _ hn, (hR k' i' ha').2]
    obtain ⟨e1, e2⟩ := sC_off (σ := σ) (k := k) (F := va_cpy F (σ.1 k 0) sp.toNatClampNeg dp.toNatClampNeg x.toNatClampNeg) k' i' (by rcases Classical.em (k' = k) with q | q; exact Or.inr (fun z => hx ⟨q, z⟩); exact Or.inl q)
    unfold ct
    rw [e1, e2]
theorem cpyR (C0 : CallFix p m c cc nL s args wB own) (hK : KW g s) (hW : FW g h A σ H) (hS : va_S A H0 H locs) (hsz : ls.size = nL) (j k : Nat) (hb : al h j 0) (hj : aln j ≠ 0) (ha : al h k 0) (hk : aln k ≠ 0) (hl : Cond.methodLink own index arraycopyName ∈ wB) {sp dp x : Int32} (h1 : ¬ sp < 0) (h2 : ¬ dp < 0) (h3 : ¬ x < 0) (h4 : sp.toNatClampNeg + x.toNatClampNeg ≤ aln j) (h5 : dp.toNatClampNeg + x.toNatClampNeg ≤ aln k)
    (hfr : 1 ≤ R.frames) (hlw : (rest.map fun v => v.category).sum + (nativeFrameWords "java/lang/System" "arraycopy" 5 + 11) ≤ R.locals) (hdg : decode cc pc = .ok (.invokestatic index, 3))
    (kk : ∀ (H1 : Heap) (locs1 : List Loc), FW g h A (sC σ k (va_cpy (σ.1 j 0) (σ.1 k 0) sp.toNatClampNeg dp.toNatClampNeg x.toNatClampNeg)) H1 → va_S A H0 H1 locs1 → W p l e R s m args below meth c H1 locs1 cells slots Q (F0 m (pc + 3) ls rest)) : W p l e R s m args below meth c H locs cells slots Q (F0 m pc ls (.int x :: .int dp :: .ref (h.2.2 k 0) :: .int sp :: .ref (h.2.2 j 0) :: rest)) := by
  have hnat : (Cond.native arraycopyName).before args s = true := va_Nw.use rfl hK.2.2.2.2.2.2.1
  obtain ⟨L, f, hP, hD, hR, hJ⟩ := hW
  obtain ⟨kq, hkq⟩ := va_pl_get (X := []) (f := f) (hR j 0 hb).1
  have hkq2 : (va_pl L f)[kq]? = some (h.2.2 j 0, .inl (g.2.1.1, aln j, .inl (σ.1 j 0))) := by
    rw [← (show ct g h σ j 0 = .inl (g.2.1.1, aln j, .inl (σ.1 j 0)) from if_pos hj), ← (hR j 0 hb).2]; exact hkq
  obtain ⟨kr, hkr⟩ := va_pl_get (X := []) (f := f) (hR k 0 ha).1
  have hkr2 : (va_pl L f)[kr]? = some (h.2.2 k 0, .inl (g.2.1.1, aln k, .inl (σ.1 k 0))) := by
    rw [← (show ct g h σ k 0 = .inl (g.2.1.1, aln k, .inl (σ.1 k 0)) from if_pos hk), ← (hR k 0 ha).2]; exact hkr
  refine va_copyi C0.1 C0.2.1 (C0.2.2.1.trans hsz.symm) C0.2.2.2.1 (C0.2.2.2.2 _ hl) hnat (C0.2.2.2.2 _ wST_java_lang_System_arraycopy__Ljava_lang_Object_ILjava_lang_Object_II_V) (C0.2.2.2.2 _ wIN_J10) hK.1 hP hD hS kq kr 0 0 hkq2 hkr2 rfl rfl rfl h1 h2 h3 h4 h5 (fun i hi => rfl) hfr hlw hdg (fun H1 locs1 hP1 hD1 hS1 => ?_)
  have e : (va_pl L f).set kr (h.2.2 k 0, .inl (g.2.1.1, aln k, .inl (va_cpy (σ.1 j 0) (σ.1 k 0) sp.toNatClampNeg dp.toNatClampNeg x.toNatClampNeg))) = va_pl L (va_up f (h.2.2 k 0) (.inl (g.2.1.1, aln k, .inl (va_cpy (σ.1 j 0) (σ.1 k 0) sp.toNatClampNeg dp.toNatClampNeg x.toNatClampNeg)))) := va_pl_set (X := []) hD (hR k 0 ha).1 hkr
  rw [e] at hP1 hD1
  refine kk H1 locs1 ⟨L, _, hP1, hD1, fun k' i' ha' => ⟨(hR k' i' ha').1, ?_⟩, hJ⟩ hS1
  by_cases hx : k' = k ∧ i' = 0
  · obtain ⟨rfl, rfl⟩ := hx
    rw [va_up_self, (show ct g h (sC σ k' (va_cpy (σ.1 j 0) (σ.1 k' 0) sp.toNatClampNeg dp.toNatClampNeg x.toNatClampNeg)) k' 0 = .inl (g.2.1.1, aln k', .inl ((sC σ k' (va_cpy (σ.1 j 0) (σ.1 k' 0) sp.toNatClampNeg dp.toNatClampNeg x.toNatClampNeg)).1 k' 0)) from if_pos hk), sC_on]
  · have hn : h.2.2 k' i' ≠ h.2.2 k 0 := fun q => hx (hJ k' i' k 0 ha' ha q)
    rw [va_up_ne _ _ hn, (hR k' i' ha').2]
    obtain ⟨e1, e2⟩ := sC_off (σ := σ) (k := k) (F := va_cpy (σ.1 j 0) (σ.1 k 0) sp.toNatClampNeg dp.toNatClampNeg x.toNatClampNeg) k' i' (by rcases Classical.em (k' = k) with q | q; exact Or.inr (fun z => hx ⟨q, z⟩); exact Or.inl q)
    unfold ct
    rw [e1, e2]
/-- a call that leaves the heap as it is -/
theorem inH {r : Int32} (hr : va_Run p l e R s m args below meth c H locs cells slots mc ms (F0 m pc ls st0) rest (fun st oc t => oc = .returned (some (.int r)) ∧ t.heap = st.heap) (fun _ => False))
    (kk : W p l e R s m args below meth c H locs (cells + mc) (slots + ms) Q (F0 m (pc + 3) ls (.int r :: rest))) : W p l e R s m args below meth c H locs cells slots Q (F0 m pc ls st0) := by
  intro T hT X
  obtain ⟨v, st₀, t, T', L, h0, X', hL, e1, e2, ⟨hv, hh⟩, st⟩ := hr T hT X
  cases hv
  have hLn : L = [] := by
    cases L with
    | nil => rfl
    | cons q r => exact (hL q List.mem_cons_self).elim
  subst hLn
  rw [List.append_nil] at X'
  obtain ⟨t2, a1, b1⟩ := kk T' (by rw [e1, hh, h0]) X'
  exact ⟨t2, st t2 a1, b1⟩
theorem runVH (C0 : CallFix p m c cc nL s args wB own) (hlo : lo ≤ s.heap.size) (hK : KW g s) (hZ : ZW lo s s.heap) (hW : FW g h (Ax lo) σ H) (hS : va_S (Ax lo) s.heap H locs)
    (hM : Met l y (ws_ y bytes maxL ret) { frames := fr, cells := mc, slots := ms, locals := lw } (va_Pc (.ref b :: As) (WD lo g h σ)) Qc mc ms (fun _ => False))
    (hco : Cond.code y bytes maxL ret ∈ wB) (h1 : Cond.methodLink own index y ∈ wB) (h2 : Cond.instanceMethod y ∈ wB) (h3 : Cond.selects C y y ∈ wB) (h4 : Cond.initialized C ∈ wB)
    (hd : y.cls = C ∧ y.cls ≠ "java/lang/invoke/MethodHandle" ∧ y.cls ≠ "java/lang/invoke/VarHandle" ∧ (parseMethodDescriptor y.desc).map (fun d => d.parameters.length) = some n) (hR : fr + 1 ≤ R.frames ∧ 8 + (maxL + 11) + lw ≤ R.locals)
    (hrec : ∃ cell : Cell, H[b]? = some cell ∧ cell.vm.isStatics = false ∧ s.vm.findClass C = some cell.cls)
    (hn : As.length = n) (hsize : ls.size = nL) (hst : st0 = As.reverse ++ .ref b :: rest) (hrm : (rest.map fun v => v.category).sum ≤ 8) (hdg : decode cc pc = .ok (.invokevirtual index, 3)) (hf : cells + mc ≤ R.cells ∧ slots + ms ≤ R.slots) :
    va_Run p l e R s m args below meth c H locs cells slots mc ms (F0 m pc ls st0) rest (Qc (Value.ref b :: As).toArray) (fun _ => False) :=
  va_runV (As := As) (rest := rest) C0 hM (cwV n C0.2.2.2.2 (gV (ws_good hco) h1 h2 h3 h4) rfl rfl rfl hd hR) ⟨WD.blind, hrec, fun U hU hw => ⟨rfl, WD.at hlo hK hZ hW hS U hU hw⟩⟩ rfl hn hsize hst (lv_room hrm) hdg hf
theorem ofBH {av : List Value} (hy : plainName y.cls = true) (hyo : y.cls = own)
    (body : ∀ (p : Program) (e : Env) (s : State) (m : MethodId) (below : List Frame) (meth : Method) (c : Code), CallFix p m c cc maxL s av.toArray wB own → meth.sig.returnType = ret → meth.locks = false → lo ≤ s.heap.size → KW g s → ZW lo s s.heap → FW g h (Ax lo) σ s.heap → va_S (Ax lo) s.heap s.heap [] → ∀ ls : Array Slot, lv_has ls maxL (lv_args 0 av) →
      W p l e { frames := fr, cells := mc, slots := ms, locals := lw } s m av.toArray below meth c s.heap [] 0 0 (MQ below Qc av.toArray s mc ms (fun _ => False)) (F0 m 0 ls [])) (hlen : (lg_sl av).length ≤ maxL) :
    Met l y (ws_ y cc maxL ret) { frames := fr, cells := mc, slots := ms, locals := lw } (va_Pc av (WD lo g h σ)) Qc mc ms (fun _ => False) := by
  refine Met.ofW (cc := cc) (maxL := maxL) (ret := ret) hy rfl ?_
  intro p e s m args below meth c s₁ B hml hv
  obtain ⟨rfl, hlo, hW, hK, hZ⟩ := hv
  have hts := atoms_spec (ws := ws_ y cc maxL ret) B.pre
  have hown : s.vm.findClass own = some m.cls := hyo ▸ findClass_of_methodNamed B.named
  rw [lg_entry_eq]
  exact body p e s m below meth c ⟨B.exec, B.bytes, hml, hown, fun w hw => hts w (List.mem_cons_of_mem _ hw)⟩ B.returns B.notSynchronized hlo hK hZ hW va_S.rf _ (lv_entry av hlen)
theorem retIH {r : Int32} (C0 : CallFix p m c cc nL s args wB own) (hr : meth.sig.returnType = some .int) (hlk : meth.locks = false) (hdg : decode cc pc = .ok (.ireturn, 1)) :
    W p l e R s m args below meth c s.heap [] cells slots (MQ below (fun _ st oc t => oc = .returned (some (.int r)) ∧ t.heap = st.heap) args s cells slots (fun _ => False)) (F0 m pc ls [.int r]) :=
  W.iret C0.1 C0.2.1 hr (fun t ht hw => ⟨rfl, ht⟩) (fun q hq => absurd hq List.not_mem_nil) hdg hlk
theorem kN_succ {x : Int32} (hg : ¬ (x < 0 ∨ 250 ≤ x.toNatClampNeg)) : (x + 1).toNatClampNeg = x.toNatClampNeg + 1 := by
  obtain ⟨j, hj, rfl⟩ := vp_in_of (x := x) (n := 250) hg (by decide)
  rw [nI_1, nI_clamp (by omega), nI_clamp (by omega)]
theorem inVg {a : Array Value} {k0 k1 : Nat} (hk0 : k0 ≤ kN σ) (hk1 : kN σ ≤ k1) (hr : va_Run p l e R s m args below meth c H locs (kN σ - k0) (4 * (kN σ - k0)) (k1 - kN σ) (4 * (k1 - kN σ)) (F0 m pc ls st0) rest (va_Qv (fun (_ : Unit) => True) (fun _ t => FW g h (Ax lo) σ1 t.heap) (Ax lo) a) (Ax lo)) (hS : va_S (Ax lo) s.heap H locs)
    (kk : ∀ (H1 : Heap) (locs1 : List Loc), FW g h (Ax lo) σ1 H1 → va_S (Ax lo) s.heap H1 locs1 → W p l e R s m args below meth c H1 locs1 (k1 - k0) (4 * (k1 - k0)) Q (F0 m (pc + 3) ls rest)) : W p l e R s m args below meth c H locs (kN σ - k0) (4 * (kN σ - k0)) Q (F0 m pc ls st0) :=
  inV hr hS (fun H1 locs1 h1 h2 => W.cs (by omega) (by omega) (kk H1 locs1 h1 h2))
end RT
