/-! small words of the pure functions, and the rows that go with them -/
def oc {α : Type} (t : Option Nat) (a : α) (b : Nat → α) : α := match t with
  | none => a
  | some i => b i
theorem oc_n {α : Type} (a : α) (b : Nat → α) : oc none a b = a := rfl
theorem oc_s {α : Type} (i : Nat) (a : α) (b : Nat → α) : oc (some i) a b = b i := rfl
def oe {β : Type} (t : Nat ⊕ Int32) (f : Int32 → Option β) : Option β := match t with
  | .inl _ => none
  | .inr r => f r
theorem oeD {β : Type} {t : Nat ⊕ Int32} {f : Int32 → Option β} {z : β} (hF : oe t f = some z) : ∃ r, t = .inr r ∧ f r = some z := by
  cases t with
  | inl k => cases hF
  | inr r => exact ⟨r, rfl, hF⟩
theorem grd {α : Type} {c : Prop} [Decidable c] {x : Option α} {z : α} (hF : (if c then none else x) = some z) : ¬ c ∧ x = some z := by
  by_cases hc : c
  · rw [if_pos hc] at hF; cases hF
  · rw [if_neg hc] at hF; exact ⟨hc, hF⟩
theorem grp {α : Type} {c : Prop} [Decidable c] {x : Option α} {z : α} (hF : (if c then x else none) = some z) : c ∧ x = some z := by
  by_cases hc : c
  · rw [if_pos hc] at hF; exact ⟨hc, hF⟩
  · rw [if_neg hc] at hF; cases hF
theorem cam_lt {nb b : Nat} {x : Int32} (hb : b < nb) (hg : ¬ (x < 0 ∨ 3 ≤ x.toNatClampNeg)) : 3 * b + x.toNatClampNeg < 3 * nb := by
  have : x.toNatClampNeg < 3 := Nat.not_le.mp fun q => hg (Or.inr q)
  omega
def mnI (x y : Int32) : Int32 := if y < x then y else x
def mxI (x y : Int32) : Int32 := if x < y then y else x
def mnL (x y : Int64) : Int64 := if y < x then y else x
section ROWS
variable {p : Program} {l : Launch} {e : Env} {R : Room} {s : State} {m : MethodId} {args : Array Value} {below : List Frame} {meth : Method} {c : Code} {H : Heap} {locs : List Loc} {cells slots : Nat} {Q : State → Prop}
variable {cc bytes : ByteArray} {pc nL maxL index n lo mc ms fr lw : Nat} {ls : Array Slot} {rest st0 As : List Value} {own C : String} {g : Gx} {h : Sh} {σ σ1 : Sg} {y : MethodName} {ret : Option FieldType} {b : Nat} {Qc : Array Value → State → Outcome → State → Prop}
theorem nspl {t : Option Nat} {ad : Nat → Nat} (k0 : t = none → W p l e R s m args below meth c H locs cells slots Q (F0 m pc ls (.null :: rest))) (k1 : ∀ i, t = some i → W p l e R s m args below meth c H locs cells slots Q (F0 m pc ls (.ref (ad i) :: rest))) : W p l e R s m args below meth c H locs cells slots Q (F0 m pc ls (va_rf (t.map ad) :: rest)) := by
  cases t with
  | none => exact k0 rfl
  | some i => exact k1 i rfl
theorem r_min {x y : Int32} (C0 : CallFix p m c cc nL s args wB own) (hs : ls.size = nL) (h1 : Cond.methodLink own index Lib.Math.min.name ∈ wB) (h2 : 1 ≤ R.frames) (h3 : (rest.map fun v => v.category).sum + 13 ≤ R.locals) (h4 : cells ≤ R.cells) (h5 : slots ≤ R.slots) (hdg : decode cc pc = .ok (.invokestatic index, 3))
    (kk : W p l e R s m args below meth c H locs cells slots Q (F0 m (pc + 3) ls (.int (mnI x y) :: rest))) : W p l e R s m args below meth c H locs cells slots Q (F0 m pc ls (.int y :: .int x :: rest)) :=
  va_mmin C0.1 C0.2.1 (C0.2.2.1.trans hs.symm) C0.2.2.2.1 (C0.2.2.2.2 _ h1) (C0.2.2.2.2 _ wST_J9_min_7cf53) (C0.2.2.2.2 _ wIN_J9) (C0.2.2.2.2 _ wCO_J9_min_7cf53) h2 h3 h4 h5 hdg kk
theorem r_max {x y : Int32} (C0 : CallFix p m c cc nL s args wB own) (hs : ls.size = nL) (h1 : Cond.methodLink own index Lib.Math.max.name ∈ wB) (h2 : 1 ≤ R.frames) (h3 : (rest.map fun v => v.category).sum + 13 ≤ R.locals) (h4 : cells ≤ R.cells) (h5 : slots ≤ R.slots) (hdg : decode cc pc = .ok (.invokestatic index, 3))
    (kk : W p l e R s m args below meth c H locs cells slots Q (F0 m (pc + 3) ls (.int (mxI x y) :: rest))) : W p l e R s m args below meth c H locs cells slots Q (F0 m pc ls (.int y :: .int x :: rest)) :=
  va_mmax C0.1 C0.2.1 (C0.2.2.1.trans hs.symm) C0.2.2.2.1 (C0.2.2.2.2 _ h1) (C0.2.2.2.2 _ wST_J9_max_7cf53) (C0.2.2.2.2 _ wIN_J9) (C0.2.2.2.2 _ wCO_J9_max_7cf53) h2 h3 h4 h5 hdg kk
theorem r_minl {x y : Int64} (C0 : CallFix p m c cc nL s args wB own) (hs : ls.size = nL) (h1 : Cond.methodLink own index Lib.MathLoose.min_long.x ∈ wB) (h2 : 1 ≤ R.frames) (h3 : (rest.map fun v => v.category).sum + 15 ≤ R.locals) (h4 : cells ≤ R.cells) (h5 : slots ≤ R.slots) (hdg : decode cc pc = .ok (.invokestatic index, 3))
    (kk : W p l e R s m args below meth c H locs cells slots Q (F0 m (pc + 3) ls (.long (mnL x y) :: rest))) : W p l e R s m args below meth c H locs cells slots Q (F0 m pc ls (.long y :: .long x :: rest)) :=
  va_mmin_long C0.1 C0.2.1 (C0.2.2.1.trans hs.symm) C0.2.2.2.1 (C0.2.2.2.2 _ h1) (C0.2.2.2.2 _ wST_J9_min_f86c9) (C0.2.2.2.2 _ wIN_J9) (C0.2.2.2.2 _ wCO_J9_min_f86c9) h2 h3 h4 h5 hdg kk
/-- a body that may throw -/
theorem ofX {av : List Value} {XC : String → State → State → Prop} (hy : plainName y.cls = true) (hyo : y.cls = own)
    (body : ∀ (p : Program) (e : Env) (s : State) (m : MethodId) (below : List Frame) (meth : Method) (c : Code), CallFix p m c cc maxL s av.toArray wB own → meth.sig.returnType = ret → meth.locks = false → lo ≤ s.heap.size → KW g s → ZW lo s s.heap → FW g h (Ax lo) σ s.heap → va_S (Ax lo) s.heap s.heap [] → (∀ x ∈ c.exceptionTable.toList, False) → ∀ ls : Array Slot, lv_has ls maxL (lv_args 0 av) →
      W p l e { frames := fr, cells := mc, slots := ms, locals := lw } s m av.toArray below meth c s.heap [] 0 0 (vx_MQ below Qc XC av.toArray s mc ms (Ax lo)) (F0 m 0 ls [])) (hlen : (lg_sl av).length ≤ maxL) :
    vx_Met l y (ws_ y cc maxL ret) { frames := fr, cells := mc, slots := ms, locals := lw } (va_Pc av (WD lo g h σ)) Qc XC mc ms (Ax lo) := by
  refine vx_ofW (cc := cc) (maxL := maxL) (ret := ret) hy rfl ?_
  intro p e s m args below meth c s₁ B hml htb hv
  obtain ⟨rfl, hlo, hW, hK, hZ⟩ := hv
  have hts := atoms_spec (ws := ws_ y cc maxL ret) B.pre
  have hown : s.vm.findClass own = some m.cls := hyo ▸ findClass_of_methodNamed B.named
  rw [lg_entry_eq]
  exact body p e s m below meth c ⟨B.exec, B.bytes, hml, hown, fun w hw => hts w (List.mem_cons_of_mem _ hw)⟩ B.returns B.notSynchronized hlo hK hZ hW va_S.rf htb _ (lv_entry av hlen)
theorem retX {r : Int32} {res : (Nat ⊕ Int32) × Sg} (C0 : CallFix p m c cc nL s args wB own) (hr : meth.sig.returnType = some .int) (hlk : meth.locks = false) (he : res.1 = .inr r) (hW : FW g h (Ax lo) res.2 H) (hS : va_S (Ax lo) s.heap H locs) (hdg : decode cc pc = .ok (.ireturn, 1)) :
    W p l e R s m args below meth c H locs cells slots (MQ below (va_Qi (fun (r' : Int32) (_ : Unit) => res.1 = .inr r') (fun _ t => FW g h (Ax lo) res.2 t.heap) (Ax lo)) args s cells slots (Ax lo)) (F0 m pc ls [.int r]) :=
  W.iret C0.1 C0.2.1 hr (fun t ht hw => ⟨⟨r, (), rfl, he, by subst ht; exact hW⟩, hS.F ht⟩) hS.2.2 hdg hlk
theorem retXZ {r : Int32} {res : (Nat ⊕ Int32) × Sg} (C0 : CallFix p m c cc nL s args wB own) (hr : meth.sig.returnType = some .boolean) (hlk : meth.locks = false) (hz : r = 0 ∨ r = 1) (he : res.1 = .inr r) (hW : FW g h (Ax lo) res.2 H) (hS : va_S (Ax lo) s.heap H locs) (hdg : decode cc pc = .ok (.ireturn, 1)) :
    W p l e R s m args below meth c H locs cells slots (MQ below (va_Qi (fun (r' : Int32) (_ : Unit) => res.1 = .inr r') (fun _ t => FW g h (Ax lo) res.2 t.heap) (Ax lo)) args s cells slots (Ax lo)) (F0 m pc ls [.int r]) :=
  W.zret C0.1 C0.2.1 hr (by rcases hz with rfl | rfl <;> rfl) (fun t ht hw => ⟨⟨r, (), rfl, he, by subst ht; exact hW⟩, hS.F ht⟩) hS.2.2 hdg hlk
abbrev nms : List String := ["java/lang/RuntimeException", "java/lang/Exception"]
theorem vxA1 : ∀ w ∈ (vx_atS RX4 59 (exN 1) nms).filter goodWord, w ∈ wB := by decide +kernel
theorem vxA2 : ∀ w ∈ (vx_atS RX4 36 (exN 2) nms).filter goodWord, w ∈ wB := by decide +kernel
theorem vxA3 : ∀ w ∈ (vx_atS RX4 47 (exN 3) nms).filter goodWord, w ∈ wB := by decide +kernel
theorem vxB1 : ∀ w ∈ (vx_atS RX4 59 (exN 1) nms).filter (fun w => !goodWord w), w ∈ Cond.castable (exN 1) (exN 1) :: dclW.map Cond.declares := by decide +kernel
theorem vxB2 : ∀ w ∈ (vx_atS RX4 36 (exN 2) nms).filter (fun w => !goodWord w), w ∈ Cond.castable (exN 2) (exN 2) :: dclW.map Cond.declares := by decide +kernel
theorem vxB3 : ∀ w ∈ (vx_atS RX4 47 (exN 3) nms).filter (fun w => !goodWord w), w ∈ Cond.castable (exN 3) (exN 3) :: dclW.map Cond.declares := by decide +kernel
theorem vxO1 : ∀ w ∈ Cond.classLink RX4 55 (exN 1) :: Cond.initialized (exN 1) :: vx_atS RX4 59 (exN 1) nms, vx_ot w = true := by decide +kernel
theorem vxO2 : ∀ w ∈ Cond.classLink RX4 32 (exN 2) :: Cond.initialized (exN 2) :: vx_atS RX4 36 (exN 2) nms, vx_ot w = true := by decide +kernel
theorem vxO3 : ∀ w ∈ Cond.classLink RX4 43 (exN 3) :: Cond.initialized (exN 3) :: vx_atS RX4 47 (exN 3) nms, vx_ot w = true := by decide +kernel
theorem nms_fit : ∀ n ∈ nms, Bundle.fit n = true := by decide +kernel
theorem FW.kept {A : Nat → Prop} {H1 : Heap} (hW : FW g h A σ H) (hk : ∀ q : Nat, q < H.size → H1[q]? = H[q]?) : FW g h A σ H1 := by
  obtain ⟨L, f, hP, hD, hR, hJ⟩ := hW
  exact ⟨L, f, hP.kept (fun k q hq => hk q.1 (hP k q hq).lt), hD, hR, hJ⟩
def XCr (res : (Nat ⊕ Int32) × Sg) (lo : Nat) (g : Gx) (h : Sh) : String → State → State → Prop := vx_X (fun _ : Unit => True) (fun E _ t => (∃ k, res.1 = .inl k ∧ E = exN k) ∧ FW g h (Ax lo) res.2 t.heap) (Ax lo)
theorem thrX {res : (Nat ⊕ Int32) × Sg} {k : Nat} (hW : FW g h (Ax lo) res.2 H) (hS : va_S (Ax lo) s.heap H locs) (he : res.1 = .inl k) (t : State) (h1 : H.size ≤ t.heap.size) (h2 : ∀ q : Nat, q < H.size → t.heap[q]? = H[q]?) : XCr res lo g h (exN k) s t :=
  ⟨(), trivial, ⟨⟨k, he, rfl⟩, hW.kept h2⟩, Nat.le_trans hS.1 h1, fun q hq hA => (h2 q (Nat.lt_of_lt_of_le hq hS.1)).trans (hS.2.1 q hq hA)⟩
theorem thrS {res : (Nat ⊕ Int32) × Sg} {k ik ic is : Nat} {text : String} (C0 : CallFix p m c cc nL s args wB RX4) (hnt : l.stackTraces = false) (hlk : meth.locks = false) (hK : KW g s) (hZ : ZW lo s s.heap) (hW : FW g h (Ax lo) res.2 H) (hS : va_S (Ax lo) s.heap H locs) (hsz : ls.size = nL) (htb : ∀ x ∈ c.exceptionTable.toList, False) (hE : exN k ∈ exs) (hfit : Bundle.fit (exN k) = true) (hcl : Cond.classLink RX4 ik (exN k) ∈ wB) (hini : Cond.initialized (exN k) ∈ wB)
    (hA : ∀ w ∈ (vx_atS RX4 ic (exN k) nms).filter goodWord, w ∈ wB) (hB : ∀ w ∈ (vx_atS RX4 ic (exN k) nms).filter (fun w => !goodWord w), w ∈ Cond.castable (exN k) (exN k) :: dclW.map Cond.declares) (hO : ∀ w ∈ Cond.classLink RX4 ik (exN k) :: Cond.initialized (exN k) :: vx_atS RX4 ic (exN k) nms, vx_ot w = true) (hstr : (is, text) ∈ strW)
    (d0 : decode cc pc = .ok (.new ik, 3)) (d3 : decode cc (pc + 3) = .ok (.dup, 1)) (d4 : decode cc (pc + 4) = .ok (.ldc is, 2)) (d6 : decode cc (pc + 6) = .ok (.invokespecial ic, 3)) (d9 : decode cc (pc + 9) = .ok (.athrow, 1))
    (hf : 6 ≤ R.frames) (hlw : (rest.map fun v => v.category).sum + 82 ≤ R.locals) (hc : 1 ≤ R.cells) (hs : 6 ≤ R.slots) (he : res.1 = .inl k) :
    W p l e R s m args below meth c H locs 0 0 (vx_MQ below Qc (XCr res lo g h) args s 1 6 (Ax lo)) (F0 m pc ls rest) :=
  vx_throwS (names := nms) C0.1 C0.2.1 hnt C0.2.2.2.1 hfit nms_fit (C0.2.2.2.2 _ hcl) (C0.2.2.2.2 _ hini) (hK.2.2.1 _ hstr)
    (vx_hat (fun w hw => C0.2.2.2.2 _ (hA w hw)) hB (fun w hw => by
      rcases List.mem_cons.mp hw with rfl | hw
      · exact va_Nw.use rfl (hK.2.2.2.1 _ hE)
      · obtain ⟨x, hx, rfl⟩ := List.mem_map.mp hw
        exact va_Nw.use rfl (hK.2.2.2.2.2.1 x hx))) hO hZ.1 hZ.2 hS (hsz.trans C0.2.2.1.symm) d0 d3 d4 d6 d9 (fun x hx => (htb x hx).elim) hf hlw (by rw [Nat.zero_add]; exact hc) (by rw [Nat.zero_add]; exact hs) hlk
    (fun t _ h1 h2 => thrX hW hS he t h1 h2) hS.2.2 (Nat.le_refl _) (Nat.le_refl _)
theorem thrSW {res : (Nat ⊕ Int32) × Sg} {k ik ic is : Nat} {text : String} (C0 : CallFix p m c cc nL s args wB RX4) (hnt : l.stackTraces = false) (hlk : meth.locks = false) (hK : KW g s) (hZ : ZW lo s s.heap) (hW : FW g h (Ax lo) res.2 H) (hS : va_S (Ax lo) s.heap H locs) (hsz : ls.size = nL) (htb : ∀ x ∈ c.exceptionTable.toList, False) (hE : exN k ∈ exs) (hfit : Bundle.fit (exN k) = true) (hcl : Cond.classLink RX4 ik (exN k) ∈ wB) (hini : Cond.initialized (exN k) ∈ wB)
    (hA : ∀ w ∈ (vx_atS RX4 ic (exN k) nms).filter goodWord, w ∈ wB) (hB : ∀ w ∈ (vx_atS RX4 ic (exN k) nms).filter (fun w => !goodWord w), w ∈ Cond.castable (exN k) (exN k) :: dclW.map Cond.declares) (hO : ∀ w ∈ Cond.classLink RX4 ik (exN k) :: Cond.initialized (exN k) :: vx_atS RX4 ic (exN k) nms, vx_ot w = true) (hstr : (is, text) ∈ strW)
    (d0 : decode cc pc = .ok (.new ik, 3)) (d3 : decode cc (pc + 3) = .ok (.dup, 1)) (d4 : decode cc (pc + 4) = .ok (.ldc_w is, 3)) (d6 : decode cc (pc + 7) = .ok (.invokespecial ic, 3)) (d9 : decode cc (pc + 10) = .ok (.athrow, 1))
    (hf : 6 ≤ R.frames) (hlw : (rest.map fun v => v.category).sum + 82 ≤ R.locals) (hc : 1 ≤ R.cells) (hs : 6 ≤ R.slots) (he : res.1 = .inl k) :
    W p l e R s m args below meth c H locs 0 0 (vx_MQ below Qc (XCr res lo g h) args s 1 6 (Ax lo)) (F0 m pc ls rest) :=
  vx_throwSW (names := nms) C0.1 C0.2.1 hnt C0.2.2.2.1 hfit nms_fit (C0.2.2.2.2 _ hcl) (C0.2.2.2.2 _ hini) (hK.2.2.1 _ hstr)
    (vx_hat (fun w hw => C0.2.2.2.2 _ (hA w hw)) hB (fun w hw => by
      rcases List.mem_cons.mp hw with rfl | hw
      · exact va_Nw.use rfl (hK.2.2.2.1 _ hE)
      · obtain ⟨x, hx, rfl⟩ := List.mem_map.mp hw
        exact va_Nw.use rfl (hK.2.2.2.2.2.1 x hx))) hO hZ.1 hZ.2 hS (hsz.trans C0.2.2.1.symm) d0 d3 d4 d6 d9 (fun x hx => (htb x hx).elim) hf hlw (by rw [Nat.zero_add]; exact hc) (by rw [Nat.zero_add]; exact hs) hlk
    (fun t _ h1 h2 => thrX hW hS he t h1 h2) hS.2.2 (Nat.le_refl _) (Nat.le_refl _)
theorem exs1 : exN 1 ∈ exs := by decide
theorem exs2 : exN 2 ∈ exs := by decide
theorem exs3 : exN 3 ∈ exs := by decide
theorem fit1 : Bundle.fit (exN 1) = true := by decide +kernel
theorem fit2 : Bundle.fit (exN 2) = true := by decide +kernel
theorem fit3 : Bundle.fit (exN 3) = true := by decide +kernel
theorem runVX {XC : String → State → State → Prop} (C0 : CallFix p m c cc nL s args wB own) (hlo : lo ≤ s.heap.size) (hK : KW g s) (hZ : ZW lo s s.heap) (hW : FW g h (Ax lo) σ H) (hS : va_S (Ax lo) s.heap H locs)
    (hM : vx_Met l y (ws_ y bytes maxL ret) { frames := fr, cells := mc, slots := ms, locals := lw } (va_Pc (.ref b :: As) (WD lo g h σ)) Qc XC mc ms (Ax lo))
    (hco : Cond.code y bytes maxL ret ∈ wB) (h1 : Cond.methodLink own index y ∈ wB) (h2 : Cond.instanceMethod y ∈ wB) (h3 : Cond.selects C y y ∈ wB) (h4 : Cond.initialized C ∈ wB)
    (hd : y.cls = C ∧ y.cls ≠ "java/lang/invoke/MethodHandle" ∧ y.cls ≠ "java/lang/invoke/VarHandle" ∧ (parseMethodDescriptor y.desc).map (fun d => d.parameters.length) = some n) (hR : fr + 1 ≤ R.frames ∧ 8 + (maxL + 11) + lw ≤ R.locals)
    (hrec : ∃ cell : Cell, H[b]? = some cell ∧ cell.vm.isStatics = false ∧ s.vm.findClass C = some cell.cls)
    (hn : As.length = n) (hsize : ls.size = nL) (hst : st0 = As.reverse ++ .ref b :: rest) (hrm : (rest.map fun v => v.category).sum ≤ 8) (hdg : decode cc pc = .ok (.invokevirtual index, 3)) (hf : cells + mc ≤ R.cells ∧ slots + ms ≤ R.slots) :
    vx_Run p l e R s m args below meth c H locs cells slots mc ms (F0 m pc ls st0) rest (Qc (Value.ref b :: As).toArray) XC (Ax lo) :=
  vx_runV (As := As) (rest := rest) C0 hM (cwV n C0.2.2.2.2 (gV (ws_good hco) h1 h2 h3 h4) rfl rfl rfl hd hR) ⟨WD.blind, hrec, fun U hU hw => ⟨rfl, WD.at hlo hK hZ hW hS U hU hw⟩⟩ rfl hn hsize hst (lv_room hrm) hdg hf
theorem inX {a : Array Value} {res : (Nat ⊕ Int32) × Sg} {r : Int32} (hr : vx_Run p l e R s m args below meth c H locs cells slots mc ms (F0 m pc ls st0) rest (va_Qi (fun (r' : Int32) (_ : Unit) => res.1 = .inr r') (fun _ t => FW g h (Ax lo) res.2 t.heap) (Ax lo) a) (XCr res lo g h) (Ax lo)) (hS : va_S (Ax lo) s.heap H locs) (he : res.1 = .inr r)
    (kk : ∀ (H1 : Heap) (locs1 : List Loc), FW g h (Ax lo) res.2 H1 → va_S (Ax lo) s.heap H1 locs1 → W p l e R s m args below meth c H1 locs1 (cells + mc) (slots + ms) Q (F0 m (pc + 3) ls (.int r :: rest))) : W p l e R s m args below meth c H locs cells slots Q (F0 m pc ls st0) :=
  vx_calli hr hS (fun _ _ q => q) (fun _ q => q) (fun _ _ q => q) (fun E ce q9 u t H1 locs1 ht hvm hp hB => by
    obtain ⟨⟨k, hk, -⟩, -⟩ := hB
    rw [he] at hk; cases hk) (fun r' u t H1 locs1 ht hvm hw hB hz hk hS1 => by
    have : r' = r := by rw [he] at hw; exact (Sum.inr.inj hw).symm
    subst this; subst ht; exact kk _ _ hB hS1)
theorem wB_ot {w : Cond} (h : w ∈ wB) : vx_ot w = true := by
  rcases (wB_good w h).2 with h1 | ⟨ty, rfl⟩
  · simp only [Bool.and_eq_true] at h1
    simp [vx_ot, h1.1]
  · rfl
end ROWS
theorem ofWF {l : Launch} {y : MethodName} {ws ws' : List Cond} {rm : Room} {Pc : Array Value → State → Prop} {Qc : Array Value → State → Outcome → State → Prop} {mc ms : Nat} {free : Addr → Prop} {cc : ByteArray} {maxL : Nat} {ret : Option FieldType}
    (hy : plainFor y = true) (hw : ws = Cond.code y cc maxL ret :: ws')
    (body : ∀ p e s m args below meth c s₁, BodyLoose p l y (headSpec ws rm) cc maxL ret e s m args below meth c s₁ → c.maxLocals = maxL → Pc args s →
      W p l e (headSpec ws rm).room s m args below meth c s.heap [] 0 0 (MQ below Qc args s mc ms free) (entryFrame m args maxL)) : Met l y ws rm Pc Qc mc ms free := by
  refine MetFree.of_bodySF (code := cc) (maxLocals := maxL) (ret := ret) hy ?_ ?_
  · intro args s m h hn
    obtain ⟨meth, c, h1, h2, h3, h4, h5, h6, -, -⟩ := Cond.code_spec hn (atoms_spec (ws := ws) h _ (by rw [hw]; exact List.mem_cons_self))
    exact ⟨meth, c, h1, h2, h3, h4, h5, h6⟩
  · intro p e s m args below meth c s₁ B hml hP _
    have hh0 : s₁.heap = s.heap := by rw [B.state]; rfl
    obtain ⟨t, a1, o, b1, b2, b3⟩ := body p e s m args below meth c s₁ B hml hP s₁ hh0 (Stand.of_body B)
    exact ⟨t, o, a1, b1, b2, ⟨b3.1, b3.2⟩⟩
theorem ofBF {l : Launch} {cc : ByteArray} {maxL lo mc ms fr lw : Nat} {own : String} {g : Gx} {h : Sh} {σ : Sg} {y : MethodName} {ret : Option FieldType} {Qc : Array Value → State → Outcome → State → Prop} {av : List Value} (hy : plainFor y = true) (hyo : y.cls = own)
    (body : ∀ (p : Program) (e : Env) (s : State) (m : MethodId) (below : List Frame) (meth : Method) (c : Code), CallFix p m c cc maxL s av.toArray wB own → meth.sig.returnType = ret → meth.locks = false → lo ≤ s.heap.size → KW g s → ZW lo s s.heap → FW g h (Ax lo) σ s.heap → va_S (Ax lo) s.heap s.heap [] → ∀ ls : Array Slot, lv_has ls maxL (lv_args 0 av) →
      W p l e { frames := fr, cells := mc, slots := ms, locals := lw } s m av.toArray below meth c s.heap [] 0 0 (MQ below Qc av.toArray s mc ms (Ax lo)) (F0 m 0 ls [])) (hlen : (lg_sl av).length ≤ maxL) :
    Met l y (ws_ y cc maxL ret) { frames := fr, cells := mc, slots := ms, locals := lw } (va_Pc av (WD lo g h σ)) Qc mc ms (Ax lo) := by
  refine ofWF (cc := cc) (maxL := maxL) (ret := ret) hy rfl ?_
  intro p e s m args below meth c s₁ B hml hv
  obtain ⟨rfl, hlo, hW, hK, hZ⟩ := hv
  have hts := atoms_spec (ws := ws_ y cc maxL ret) B.pre
  have hown : s.vm.findClass own = some m.cls := hyo ▸ findClass_of_methodNamed B.named
  rw [lg_entry_eq]
  exact body p e s m below meth c ⟨B.exec, B.bytes, hml, hown, fun w hw => hts w (List.mem_cons_of_mem _ hw)⟩ B.returns B.notSynchronized hlo hK hZ hW va_S.rf _ (lv_entry av hlen)
