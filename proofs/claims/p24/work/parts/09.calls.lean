/-! CONTRACTS OVER THE WORLD, AND CALLS -/
def MI (l : Launch) (y : MethodName) (ws : List Cond) (fr lw mc ms lo : Nat) (g : Gx) (h : Sh) (av : List Value) (σ : Sg) (r : Int32) (σ1 : Sg) : Prop :=
  Met l y ws { frames := fr, cells := mc, slots := ms, locals := lw } (va_Pc av (WD lo g h σ)) (va_Qi (fun (r' : Int32) (_ : Unit) => r' = r) (fun _ t => FW g h (Ax lo) σ1 t.heap) (Ax lo)) mc ms (Ax lo)
def ML (l : Launch) (y : MethodName) (ws : List Cond) (fr lw mc ms lo : Nat) (g : Gx) (h : Sh) (av : List Value) (σ : Sg) (r : Int64) (σ1 : Sg) : Prop :=
  Met l y ws { frames := fr, cells := mc, slots := ms, locals := lw } (va_Pc av (WD lo g h σ)) (va_Ql (fun (r' : Int64) (_ : Unit) => r' = r) (fun _ t => FW g h (Ax lo) σ1 t.heap) (Ax lo)) mc ms (Ax lo)
def MV (l : Launch) (y : MethodName) (ws : List Cond) (fr lw mc ms lo : Nat) (g : Gx) (h : Sh) (av : List Value) (σ : Sg) (σ1 : Sg) : Prop :=
  Met l y ws { frames := fr, cells := mc, slots := ms, locals := lw } (va_Pc av (WD lo g h σ)) (va_Qv (fun (_ : Unit) => True) (fun _ t => FW g h (Ax lo) σ1 t.heap) (Ax lo)) mc ms (Ax lo)
def MR (l : Launch) (y : MethodName) (ws : List Cond) (fr lw mc ms lo : Nat) (g : Gx) (h : Sh) (av : List Value) (σ : Sg) (r : Option Nat) (σ1 : Sg) : Prop :=
  Met l y ws { frames := fr, cells := mc, slots := ms, locals := lw } (va_Pc av (WD lo g h σ)) (va_Qq (fun (r' : Option Nat) (_ : Unit) => r' = r) (fun _ t => FW g h (Ax lo) σ1 t.heap) (Ax lo)) mc ms (Ax lo)
theorem recvK {s : State} {g : Gx} {h : Sh} {σ : Sg} {A : Nat → Prop} {H : Heap} {k i ci : Nat} {fs : List Value} {C : String} {T : u_T} {N : Nat} (hK : KW g s) (hW : FW g h A σ H) (ha : al h k i) (he : ct g h σ k i = .inr (ci, fs)) (hc : vwCl[ci]? = some (C, T, N)) : ∃ cell : Cell, H[h.2.2 k i]? = some cell ∧ cell.vm.isStatics = false ∧ s.vm.findClass C = some cell.cls := by
  obtain ⟨ws, q, hP, -, hq, -⟩ := hW.cut ha
  rw [he] at hq
  exact va_recv hK.1 hP hc hq
section CALLS
variable {p : Program} {l : Launch} {e : Env} {R : Room} {s : State} {m : MethodId} {args : Array Value} {below : List Frame} {meth : Method} {c : Code} {H : Heap} {locs : List Loc} {cells slots : Nat} {Q : State → Prop}
variable {cc bytes : ByteArray} {pc nL maxL index n lo mc ms fr lw : Nat} {ls : Array Slot} {rest st0 As : List Value} {own C : String} {g : Gx} {h : Sh} {σ σ1 : Sg} {y : MethodName} {ret : Option FieldType} {b : Nat} {Qc : Array Value → State → Outcome → State → Prop}
theorem runV (C0 : CallFix p m c cc nL s args wB own) (hlo : lo ≤ s.heap.size) (hK : KW g s) (hZ : ZW lo s s.heap) (hW : FW g h (Ax lo) σ H) (hS : va_S (Ax lo) s.heap H locs)
    (hM : Met l y (ws_ y bytes maxL ret) { frames := fr, cells := mc, slots := ms, locals := lw } (va_Pc (.ref b :: As) (WD lo g h σ)) Qc mc ms (Ax lo))
    (hco : Cond.code y bytes maxL ret ∈ wB) (h1 : Cond.methodLink own index y ∈ wB) (h2 : Cond.instanceMethod y ∈ wB) (h3 : Cond.selects C y y ∈ wB) (h4 : Cond.initialized C ∈ wB)
    (hd : y.cls = C ∧ y.cls ≠ "java/lang/invoke/MethodHandle" ∧ y.cls ≠ "java/lang/invoke/VarHandle" ∧ (parseMethodDescriptor y.desc).map (fun d => d.parameters.length) = some n) (hR : fr + 1 ≤ R.frames ∧ 8 + (maxL + 11) + lw ≤ R.locals)
    (hrec : ∃ cell : Cell, H[b]? = some cell ∧ cell.vm.isStatics = false ∧ s.vm.findClass C = some cell.cls)
    (hn : As.length = n) (hsize : ls.size = nL) (hst : st0 = As.reverse ++ .ref b :: rest) (hrm : (rest.map fun v => v.category).sum ≤ 8) (hdg : decode cc pc = .ok (.invokevirtual index, 3)) (hf : cells + mc ≤ R.cells ∧ slots + ms ≤ R.slots) :
    va_Run p l e R s m args below meth c H locs cells slots mc ms (F0 m pc ls st0) rest (Qc (Value.ref b :: As).toArray) (Ax lo) :=
  va_runV (As := As) (rest := rest) C0 hM (cwV n C0.2.2.2.2 (gV (ws_good hco) h1 h2 h3 h4) rfl rfl rfl hd hR) ⟨WD.blind, hrec, fun U hU hw => ⟨rfl, WD.at hlo hK hZ hW hS U hU hw⟩⟩ rfl hn hsize hst (lv_room hrm) hdg hf
theorem runS (C0 : CallFix p m c cc nL s args wB own) (hlo : lo ≤ s.heap.size) (hK : KW g s) (hZ : ZW lo s s.heap) (hW : FW g h (Ax lo) σ H) (hS : va_S (Ax lo) s.heap H locs)
    (hM : Met l y (ws_ y bytes maxL ret) { frames := fr, cells := mc, slots := ms, locals := lw } (va_Pc As (WD lo g h σ)) Qc mc ms (Ax lo))
    (hco : Cond.code y bytes maxL ret ∈ wB) (h1 : Cond.methodLink own index y ∈ wB) (h2 : Cond.static y ∈ wB) (h3 : Cond.initialized y.cls ∈ wB)
    (hd : y.cls ≠ "java/lang/invoke/MethodHandle" ∧ y.cls ≠ "java/lang/invoke/VarHandle" ∧ (parseMethodDescriptor y.desc).map (fun d => d.parameters.length) = some n) (hR : fr + 1 ≤ R.frames ∧ 8 + (maxL + 11) + lw ≤ R.locals)
    (hn : As.length = n) (hsize : ls.size = nL) (hst : st0 = As.reverse ++ rest) (hrm : (rest.map fun v => v.category).sum ≤ 8) (hdg : decode cc pc = .ok (.invokestatic index, 3)) (hf : cells + mc ≤ R.cells ∧ slots + ms ≤ R.slots) :
    va_Run p l e R s m args below meth c H locs cells slots mc ms (F0 m pc ls st0) rest (Qc As.toArray) (Ax lo) :=
  va_runS (As := As) (rest := rest) C0 hM (va_cwS n C0.2.2.2.2 (gS (ws_good hco) h1 h2 h3) rfl rfl rfl hd hR) ⟨WD.blind, fun U hU hw => ⟨rfl, WD.at hlo hK hZ hW hS U hU hw⟩⟩ rfl hn hsize hst (lv_room hrm) hdg hf
theorem runN {host : String} (C0 : CallFix p m c cc nL s args wB own) (hlo : lo ≤ s.heap.size) (hK : KW g s) (hZ : ZW lo s s.heap) (hW : FW g h (Ax lo) σ H) (hS : va_S (Ax lo) s.heap H locs)
    (hM : Met l y (ws_ y bytes maxL ret) { frames := fr, cells := mc, slots := ms, locals := lw } (va_Pc As (WD lo g h σ)) Qc mc ms (Ax lo))
    (hco : Cond.code y bytes maxL ret ∈ wB) (h1 : (own, index, y, host) ∈ nstW) (h2 : Cond.static y ∈ wB) (h3 : Cond.initialized y.cls ∈ wB)
    (hd : y.cls ≠ "java/lang/invoke/MethodHandle" ∧ y.cls ≠ "java/lang/invoke/VarHandle" ∧ (parseMethodDescriptor y.desc).map (fun d => d.parameters.length) = some n) (hR : fr + 1 ≤ R.frames ∧ 8 + (maxL + 11) + lw ≤ R.locals)
    (hn : As.length = n) (hsize : ls.size = nL) (hst : st0 = As.reverse ++ rest) (hrm : (rest.map fun v => v.category).sum ≤ 8) (hdg : decode cc pc = .ok (.invokestatic index, 3)) (hf : cells + mc ≤ R.cells ∧ slots + ms ≤ R.slots) :
    va_Run p l e R s m args below meth c H locs cells slots mc ms (F0 m pc ls st0) rest (Qc As.toArray) (Ax lo) :=
  va_runSN (As := As) (rest := rest) C0 hM ⟨va_cnB n C0.2.2.2.2 (ws_good hco) rfl rfl rfl (hK.2.1 _ h1) (C0.2.2.2.2 _ h3) hd hR, C0.2.2.2.2 _ h2, trivial⟩ ⟨WD.blind, fun U hU hw => ⟨rfl, WD.at hlo hK hZ hW hS U hU hw⟩⟩ rfl hn hsize hst (lv_room hrm) hdg hf
theorem inI {a : Array Value} {r : Int32} (hr : va_Run p l e R s m args below meth c H locs cells slots mc ms (F0 m pc ls st0) rest (va_Qi (fun (r' : Int32) (_ : Unit) => r' = r) (fun _ t => FW g h (Ax lo) σ1 t.heap) (Ax lo) a) (Ax lo)) (hS : va_S (Ax lo) s.heap H locs)
    (kk : ∀ (H1 : Heap) (locs1 : List Loc), FW g h (Ax lo) σ1 H1 → va_S (Ax lo) s.heap H1 locs1 → W p l e R s m args below meth c H1 locs1 (cells + mc) (slots + ms) Q (F0 m (pc + 3) ls (.int r :: rest))) : W p l e R s m args below meth c H locs cells slots Q (F0 m pc ls st0) :=
  va_calli hr hS (fun _ _ q => q) (fun _ q => q) (fun r' u t H1 locs1 ht hvm hw hB hz hk hS1 => by subst hw; subst ht; exact kk _ _ hB hS1)
theorem inL {a : Array Value} {r : Int64} (hr : va_Run p l e R s m args below meth c H locs cells slots mc ms (F0 m pc ls st0) rest (va_Ql (fun (r' : Int64) (_ : Unit) => r' = r) (fun _ t => FW g h (Ax lo) σ1 t.heap) (Ax lo) a) (Ax lo)) (hS : va_S (Ax lo) s.heap H locs)
    (kk : ∀ (H1 : Heap) (locs1 : List Loc), FW g h (Ax lo) σ1 H1 → va_S (Ax lo) s.heap H1 locs1 → W p l e R s m args below meth c H1 locs1 (cells + mc) (slots + ms) Q (F0 m (pc + 3) ls (.long r :: rest))) : W p l e R s m args below meth c H locs cells slots Q (F0 m pc ls st0) :=
  va_calll hr hS (fun _ _ q => q) (fun _ q => q) (fun r' u t H1 locs1 ht hvm hw hB hz hk hS1 => by subst hw; subst ht; exact kk _ _ hB hS1)
theorem inV {a : Array Value} (hr : va_Run p l e R s m args below meth c H locs cells slots mc ms (F0 m pc ls st0) rest (va_Qv (fun (_ : Unit) => True) (fun _ t => FW g h (Ax lo) σ1 t.heap) (Ax lo) a) (Ax lo)) (hS : va_S (Ax lo) s.heap H locs)
    (kk : ∀ (H1 : Heap) (locs1 : List Loc), FW g h (Ax lo) σ1 H1 → va_S (Ax lo) s.heap H1 locs1 → W p l e R s m args below meth c H1 locs1 (cells + mc) (slots + ms) Q (F0 m (pc + 3) ls rest)) : W p l e R s m args below meth c H locs cells slots Q (F0 m pc ls st0) :=
  va_callv hr hS (fun _ _ q => q) (fun _ q => q) (fun u t H1 locs1 ht hvm hw hB hz hk hS1 => by subst ht; exact kk _ _ hB hS1)
theorem inR {a : Array Value} {r : Option Nat} (hr : va_Run p l e R s m args below meth c H locs cells slots mc ms (F0 m pc ls st0) rest (va_Qq (fun (r' : Option Nat) (_ : Unit) => r' = r) (fun _ t => FW g h (Ax lo) σ1 t.heap) (Ax lo) a) (Ax lo)) (hS : va_S (Ax lo) s.heap H locs)
    (kk : ∀ (H1 : Heap) (locs1 : List Loc), FW g h (Ax lo) σ1 H1 → va_S (Ax lo) s.heap H1 locs1 → W p l e R s m args below meth c H1 locs1 (cells + mc) (slots + ms) Q (F0 m (pc + 3) ls (va_rf r :: rest))) : W p l e R s m args below meth c H locs cells slots Q (F0 m pc ls st0) :=
  va_callq hr hS (fun _ _ q => q) (fun _ q => q) (fun r' u t H1 locs1 ht hvm hw hB hz hk hS1 => by subst hw; subst ht; exact kk _ _ hB hS1)
/-- the head of a body -/
theorem ofB {av : List Value} (hy : plainName y.cls = true) (hyo : y.cls = own)
    (body : ∀ (p : Program) (e : Env) (s : State) (m : MethodId) (below : List Frame) (meth : Method) (c : Code), CallFix p m c cc maxL s av.toArray wB own → meth.sig.returnType = ret → meth.locks = false → lo ≤ s.heap.size → KW g s → ZW lo s s.heap → FW g h (Ax lo) σ s.heap → va_S (Ax lo) s.heap s.heap [] → ∀ ls : Array Slot, lv_has ls maxL (lv_args 0 av) →
      W p l e { frames := fr, cells := mc, slots := ms, locals := lw } s m av.toArray below meth c s.heap [] 0 0 (MQ below Qc av.toArray s mc ms (Ax lo)) (F0 m 0 ls [])) (hlen : (lg_sl av).length ≤ maxL) :
    Met l y (ws_ y cc maxL ret) { frames := fr, cells := mc, slots := ms, locals := lw } (va_Pc av (WD lo g h σ)) Qc mc ms (Ax lo) := by
  refine Met.ofW (cc := cc) (maxL := maxL) (ret := ret) hy rfl ?_
  intro p e s m args below meth c s₁ B hml hv
  obtain ⟨rfl, hlo, hW, hK, hZ⟩ := hv
  have hts := atoms_spec (ws := ws_ y cc maxL ret) B.pre
  have hown : s.vm.findClass own = some m.cls := hyo ▸ findClass_of_methodNamed B.named
  rw [lg_entry_eq]
  exact body p e s m below meth c ⟨B.exec, B.bytes, hml, hown, fun w hw => hts w (List.mem_cons_of_mem _ hw)⟩ B.returns B.notSynchronized hlo hK hZ hW va_S.rf _ (lv_entry av hlen)
theorem retI {r : Int32} (C0 : CallFix p m c cc nL s args wB own) (hr : meth.sig.returnType = some .int) (hlk : meth.locks = false) (hW : FW g h (Ax lo) σ1 H) (hS : va_S (Ax lo) s.heap H locs) (hdg : decode cc pc = .ok (.ireturn, 1)) :
    W p l e R s m args below meth c H locs cells slots (MQ below (va_Qi (fun (r' : Int32) (_ : Unit) => r' = r) (fun _ t => FW g h (Ax lo) σ1 t.heap) (Ax lo)) args s cells slots (Ax lo)) (F0 m pc ls [.int r]) :=
  W.iret C0.1 C0.2.1 hr (fun t ht hw => ⟨⟨r, (), rfl, rfl, by subst ht; exact hW⟩, hS.F ht⟩) hS.2.2 hdg hlk
theorem retZ {r : Int32} (C0 : CallFix p m c cc nL s args wB own) (hr : meth.sig.returnType = some .boolean) (hlk : meth.locks = false) (hz : r = 0 ∨ r = 1) (hW : FW g h (Ax lo) σ1 H) (hS : va_S (Ax lo) s.heap H locs) (hdg : decode cc pc = .ok (.ireturn, 1)) :
    W p l e R s m args below meth c H locs cells slots (MQ below (va_Qi (fun (r' : Int32) (_ : Unit) => r' = r) (fun _ t => FW g h (Ax lo) σ1 t.heap) (Ax lo)) args s cells slots (Ax lo)) (F0 m pc ls [.int r]) :=
  W.zret C0.1 C0.2.1 hr (by rcases hz with rfl | rfl <;> rfl) (fun t ht hw => ⟨⟨r, (), rfl, rfl, by subst ht; exact hW⟩, hS.F ht⟩) hS.2.2 hdg hlk
theorem retL {r : Int64} (C0 : CallFix p m c cc nL s args wB own) (hr : meth.sig.returnType = some .long) (hlk : meth.locks = false) (hW : FW g h (Ax lo) σ1 H) (hS : va_S (Ax lo) s.heap H locs) (hdg : decode cc pc = .ok (.lreturn, 1)) :
    W p l e R s m args below meth c H locs cells slots (MQ below (va_Ql (fun (r' : Int64) (_ : Unit) => r' = r) (fun _ t => FW g h (Ax lo) σ1 t.heap) (Ax lo)) args s cells slots (Ax lo)) (F0 m pc ls [.long r]) :=
  W.lret C0.1 C0.2.1 hr (fun t ht hw => ⟨⟨r, (), rfl, rfl, by subst ht; exact hW⟩, hS.F ht⟩) hS.2.2 hdg hlk
theorem retV (C0 : CallFix p m c cc nL s args wB own) (hr : meth.sig.returnType = none) (hlk : meth.locks = false) (hW : FW g h (Ax lo) σ1 H) (hS : va_S (Ax lo) s.heap H locs) (hdg : decode cc pc = .ok (.return_, 1)) :
    W p l e R s m args below meth c H locs cells slots (MQ below (va_Qv (fun (_ : Unit) => True) (fun _ t => FW g h (Ax lo) σ1 t.heap) (Ax lo)) args s cells slots (Ax lo)) (F0 m pc ls []) :=
  W.vret C0.1 C0.2.1 hr (fun t ht hw => ⟨⟨(), rfl, trivial, by subst ht; exact hW⟩, hS.F ht⟩) hS.2.2 hdg hlk
theorem retR {rt : FieldType} {r : Option Nat} (C0 : CallFix p m c cc nL s args wB own) (hr : meth.sig.returnType = some rt) (hrt : (∃ n, rt = .object n) ∨ ∃ t, rt = .array t) (hlk : meth.locks = false) (hW : FW g h (Ax lo) σ1 H) (hS : va_S (Ax lo) s.heap H locs) (hdg : decode cc pc = .ok (.areturn, 1)) :
    W p l e R s m args below meth c H locs cells slots (MQ below (va_Qq (fun (r' : Option Nat) (_ : Unit) => r' = r) (fun _ t => FW g h (Ax lo) σ1 t.heap) (Ax lo)) args s cells slots (Ax lo)) (F0 m pc ls [va_rf r]) :=
  W.aret C0.1 C0.2.1 hr hrt (va_rf_or r) (fun t ht hw => ⟨⟨r, (), rfl, rfl, by subst ht; exact hW⟩, hS.F ht⟩) hS.2.2 hdg hlk
theorem bnd {α β : Type} {x : Option α} {f : α → Option β} {z : β} (hF : x.bind f = some z) : ∃ a, x = some a ∧ f a = some z := by
  cases x with
  | none => cases hF
  | some a => exact ⟨a, rfl, hF⟩
end CALLS
