/-! small words of the pure functions, and the rows that go with them -/
def oc {α : Type} (t : Option Nat) (a : α) (b : Nat → α) : α := match t with
  | none => a
  | some i => b i
theorem oc_n {α : Type} (a : α) (b : Nat → α) : oc none a b = a := rfl
theorem oc_s {α : Type} (i : Nat) (a : α) (b : Nat → α) : oc (some i) a b = b i := rfl
theorem grd {α : Type} {c : Prop} [Decidable c] {x : Option α} {z : α} (hF : (if c then none else x) = some z) : ¬ c ∧ x = some z := by
  by_cases hc : c
  · rw [if_pos hc] at hF; cases hF
  · rw [if_neg hc] at hF; exact ⟨hc, hF⟩
theorem grp {α : Type} {c : Prop} [Decidable c] {x : Option α} {z : α} (hF : (if c then x else none) = some z) : c ∧ x = some z := by
  by_cases hc : c
  · rw [if_pos hc] at hF; exact ⟨hc, hF⟩
  · rw [if_neg hc] at hF; cases hF
theorem cam_lt {nb b : Nat} {x : Int32} (hb : b < nb) (hg : ¬ (x < 0 ∨ 3 ≤ x.toNatClampNeg)) : 3 * b + x.toNatClampNeg < 3 * nb := by
  have : x.toNatClampNeg < 3 := Nat.not_le.mp fun q => hg (Or.inr q)
  omega
def mnI (x y : Int32) : Int32 := if y < x then y else x
def mxI (x y : Int32) : Int32 := if x < y then y else x
def mnL (x y : Int64) : Int64 := if y < x then y else x
section ROWS
variable {p : Program} {l : Launch} {e : Env} {R : Room} {s : State} {m : MethodId} {args : Array Value} {below : List Frame} {meth : Method} {c : Code} {H : Heap} {locs : List Loc} {cells slots : Nat} {Q : State → Prop}
variable {cc bytes : ByteArray} {pc nL maxL index n lo mc ms fr lw : Nat} {ls : Array Slot} {rest st0 As : List Value} {own C : String} {g : Gx} {h : Sh} {σ σ1 : Sg} {y : MethodName} {ret : Option FieldType} {b : Nat} {Qc : Array Value → State → Outcome → State → Prop}
theorem nspl {t : Option Nat} {ad : Nat → Nat} (k0 : t = none → W p l e R s m args below meth c H locs cells slots Q (F0 m pc ls (.null :: rest))) (k1 : ∀ i, t = some i → W p l e R s m args below meth c H locs cells slots Q (F0 m pc ls (.ref (ad i) :: rest))) : W p l e R s m args below meth c H locs cells slots Q (F0 m pc ls (va_rf (t.map ad) :: rest)) := by
  cases t with
  | none => exact k0 rfl
  | some i => exact k1 i rfl
theorem r_min {x y : Int32} (C0 : CallFix p m c cc nL s args wB own) (hs : ls.size = nL) (h1 : Cond.methodLink own index Lib.Math.min.name ∈ wB) (h2 : 1 ≤ R.frames) (h3 : (rest.map fun v => v.category).sum + 13 ≤ R.locals) (h4 : cells ≤ R.cells) (h5 : slots ≤ R.slots) (hdg : decode cc pc = .ok (.invokestatic index, 3))
    (kk : W p l e R s m args below meth c H locs cells slots Q (F0 m (pc + 3) ls (.int (mnI x y) :: rest))) : W p l e R s m args below meth c H locs cells slots Q (F0 m pc ls (.int y :: .int x :: rest)) :=
  va_mmin C0.1 C0.2.1 (C0.2.2.1.trans hs.symm) C0.2.2.2.1 (C0.2.2.2.2 _ h1) (C0.2.2.2.2 _ wST_J9_min_7cf53) (C0.2.2.2.2 _ wIN_J9) (C0.2.2.2.2 _ wCO_J9_min_7cf53) h2 h3 h4 h5 hdg kk
theorem r_max {x y : Int32} (C0 : CallFix p m c cc nL s args wB own) (hs : ls.size = nL) (h1 : Cond.methodLink own index Lib.Math.max.name ∈ wB) (h2 : 1 ≤ R.frames) (h3 : (rest.map fun v => v.category).sum + 13 ≤ R.locals) (h4 : cells ≤ R.cells) (h5 : slots ≤ R.slots) (hdg : decode cc pc = .ok (.invokestatic index, 3))
    (kk : W p l e R s m args below meth c H locs cells slots Q (F0 m (pc + 3) ls (.int (mxI x y) :: rest))) : W p l e R s m args below meth c H locs cells slots Q (F0 m pc ls (.int y :: .int x :: rest)) :=
  va_mmax C0.1 C0.2.1 (C0.2.2.1.trans hs.symm) C0.2.2.2.1 (C0.2.2.2.2 _ h1) (C0.2.2.2.2 _ wST_J9_max_7cf53) (C0.2.2.2.2 _ wIN_J9) (C0.2.2.2.2 _ wCO_J9_max_7cf53) h2 h3 h4 h5 hdg kk
theorem r_minl {x y : Int64} (C0 : CallFix p m c cc nL s args wB own) (hs : ls.size = nL) (h1 : Cond.methodLink own index Lib.MathLoose.min_long.x ∈ wB) (h2 : 1 ≤ R.frames) (h3 : (rest.map fun v => v.category).sum + 15 ≤ R.locals) (h4 : cells ≤ R.cells) (h5 : slots ≤ R.slots) (hdg : decode cc pc = .ok (.invokestatic index, 3))
    (kk : W p l e R s m args below meth c H locs cells slots Q (F0 m (pc + 3) ls (.long (mnL x y) :: rest))) : W p l e R s m args below meth c H locs cells slots Q (F0 m pc ls (.long y :: .long x :: rest)) :=
  va_mmin_long C0.1 C0.2.1 (C0.2.2.1.trans hs.symm) C0.2.2.2.1 (C0.2.2.2.2 _ h1) (C0.2.2.2.2 _ wST_J9_min_f86c9) (C0.2.2.2.2 _ wIN_J9) (C0.2.2.2.2 _ wCO_J9_min_f86c9) h2 h3 h4 h5 hdg kk
end ROWS
theorem ofWF {l : Launch} {y : MethodName} {ws ws' : List Cond} {rm : Room} {Pc : Array Value → State → Prop} {Qc : Array Value → State → Outcome → State → Prop} {mc ms : Nat} {free : Addr → Prop} {cc : ByteArray} {maxL : Nat} {ret : Option FieldType}
    (hy : plainFor y = true) (hw : ws = Cond.code y cc maxL ret :: ws')
    (body : ∀ p e s m args below meth c s₁, BodyLoose p l y (headSpec ws rm) cc maxL ret e s m args below meth c s₁ → c.maxLocals = maxL → Pc args s →
      W p l e (headSpec ws rm).room s m args below meth c s.heap [] 0 0 (MQ below Qc args s mc ms free) (entryFrame m args maxL)) : Met l y ws rm Pc Qc mc ms free := by
  refine MetFree.of_bodySF (code := cc) (maxLocals := maxL) (ret := ret) hy ?_ ?_
  · intro args s m h hn
    obtain ⟨meth, c, h1, h2, h3, h4, h5, h6, -, -⟩ := Cond.code_spec hn (atoms_spec (ws := ws) h _ (by rw [hw]; exact List.mem_cons_self))
    exact ⟨meth, c, h1, h2, h3, h4, h5, h6⟩
  · intro p e s m args below meth c s₁ B hml hP _
    have hh0 : s₁.heap = s.heap := by rw [B.state]; rfl
    obtain ⟨t, a1, o, b1, b2, b3⟩ := body p e s m args below meth c s₁ B hml hP s₁ hh0 (Stand.of_body B)
    exact ⟨t, o, a1, b1, b2, ⟨b3.1, b3.2⟩⟩
theorem ofBF {l : Launch} {cc : ByteArray} {maxL lo mc ms fr lw : Nat} {own : String} {g : Gx} {h : Sh} {σ : Sg} {y : MethodName} {ret : Option FieldType} {Qc : Array Value → State → Outcome → State → Prop} {av : List Value} (hy : plainFor y = true) (hyo : y.cls = own)
    (body : ∀ (p : Program) (e : Env) (s : State) (m : MethodId) (below : List Frame) (meth : Method) (c : Code), CallFix p m c cc maxL s av.toArray wB own → meth.sig.returnType = ret → meth.locks = false → lo ≤ s.heap.size → KW g s → ZW lo s s.heap → FW g h (Ax lo) σ s.heap → va_S (Ax lo) s.heap s.heap [] → ∀ ls : Array Slot, lv_has ls maxL (lv_args 0 av) →
      W p l e { frames := fr, cells := mc, slots := ms, locals := lw } s m av.toArray below meth c s.heap [] 0 0 (MQ below Qc av.toArray s mc ms (Ax lo)) (F0 m 0 ls [])) (hlen : (lg_sl av).length ≤ maxL) :
    Met l y (ws_ y cc maxL ret) { frames := fr, cells := mc, slots := ms, locals := lw } (va_Pc av (WD lo g h σ)) Qc mc ms (Ax lo) := by
  refine ofWF (cc := cc) (maxL := maxL) (ret := ret) hy rfl ?_
  intro p e s m args below meth c s₁ B hml hv
  obtain ⟨rfl, hlo, hW, hK, hZ⟩ := hv
  have hts := atoms_spec (ws := ws_ y cc maxL ret) B.pre
  have hown : s.vm.findClass own = some m.cls := hyo ▸ findClass_of_methodNamed B.named
  rw [lg_entry_eq]
  exact body p e s m below meth c ⟨B.exec, B.bytes, hml, hown, fun w hw => hts w (List.mem_cons_of_mem _ hw)⟩ B.returns B.notSynchronized hlo hK hZ hW va_S.rf _ (lv_entry av hlen)
