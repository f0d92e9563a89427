/-! small words of the pure functions, and the rows that go with them -/
def oc {α : Type} (t : Option Nat) (a : α) (b : Nat → α) : α := match t with
  | none => a
  | some i => b i
theorem oc_n {α : Type} (a : α) (b : Nat → α) : oc none a b = a := rfl
theorem oc_s {α : Type} (i : Nat) (a : α) (b : Nat → α) : oc (some i) a b = b i := rfl
def oe {β : Type} (t : Nat ⊕ Int32) (f : Int32 → Option β) : Option β := match t with
  | .inl _ => none
  | .inr r => f r
theorem oeD {β : Type} {t : Nat ⊕ Int32} {f : Int32 → Option β} {z : β} (hF : oe t f = some z) : ∃ r, t = .inr r ∧ f r = some z := by
  cases t with
  | inl k => cases hF
  | inr r => exact ⟨r, rfl, hF⟩
theorem grd {α : Type} {c : Prop} [Decidable c] {x : Option α} {z : α} (hF : (if c then none else x) = some z) : ¬ c ∧ x = some z := by
  by_cases hc : c
  · rw [if_pos hc] at hF; cases hF
  · rw [if_neg hc] at hF; exact ⟨hc, hF⟩
theorem grp {α : Type} {c : Prop} [Decidable c] {x : Option α} {z : α} (hF : (if c then x else none) = some z) : c ∧ x = some z := by
  by_cases hc : c
  · rw [if_pos hc] at hF; exact ⟨hc, hF⟩
  · rw [if_neg hc] at hF; cases hF
theorem cam_lt {nb b : Nat} {x : Int32} (hb : b < nb) (hg : ¬ (x < 0 ∨ 3 ≤ x.toNatClampNeg)) : 3 * b + x.toNatClampNeg < 3 * nb := by
  have : x.toNatClampNeg < 3 := Nat.not_le.mp fun q => hg (Or.inr q)
  omega
def mnI (x y : Int32) : Int32 := if y < x then y else x
def mxI (x y : Int32) : Int32 := if x < y then y else x
def mnL (x y : Int64) : Int64 := if y < x then y else x
section ROWS
variable {p : Program} {l : Launch} {e : Env} {R : Room} {s : State} {m : MethodId} {args : Array Value} {below : List Frame} {meth : Method} {c : Code} {H : Heap} {locs : List Loc} {cells slots : Nat} {Q : State → Prop}
variable {cc bytes : ByteArray} {pc nL maxL index n lo mc ms fr lw : Nat} {ls : Array Slot} {rest st0 As : List Value} {own C : String} {g : Gx} {h : Sh} {σ σ1 : Sg} {y : MethodName} {ret : Option FieldType} {b : Nat} {Qc : Array Value → State → Outcome → State → Prop}
theorem nspl {t : Option Nat} {ad : Nat → Nat} (k0 : t = none → W p l e R s m args below meth c H locs cells slots Q (F0 m pc ls (.null :: rest))) (k1 : ∀ i, t = some i → W p l e R s m args below meth c H locs cells slots Q (F0 m pc ls (.ref (ad i) :: rest))) : W p l e R s m args below meth c H locs cells slots Q (F0 m pc ls (va_rf (t.map ad) :: rest)) := by
  cases t with
  | none => exact k0 rfl
  | some i => exact k1 i rfl
theorem r_min {x y : Int32} (C0 : CallFix p m c cc nL s args wB own) (hs : ls.size = nL) (h1 : Cond.methodLink own index Lib.Math.min.name ∈ wB) (h2 : 1 ≤ R.frames) (h3 : (rest.map fun v => v.category).sum + 13 ≤ R.locals) (h4 : cells ≤ R.cells) (h5 : slots ≤ R.slots) (hdg : decode cc pc = .ok (.invokestatic index, 3))
    (kk : W p l e R s m args below meth c H locs cells slots Q (F0 m (pc + 3) ls (.int (mnI x y) :: rest))) : W p l e R s m args below meth c H locs cells slots Q (F0 m pc ls (.int y :: .int x :: rest)) :=
  va_mmin C0.1 C0.2.1 (C0.2.2.1.trans hs.symm) C0.2.2.2.1 (C0.2.2.2.2 _ h1) (C0.2.2.2.2 _ wST_J9_min_7cf53) (C0.2.2.2.2 _ wIN_J9) (C0.2.2.2.2 _ wCO_J9_min_7cf53) h2 h3 h4 h5 hdg kk
theorem r_max {x y : Int32} (C0 : CallFix p m c cc nL s args wB own) (hs : ls.size = nL) (h1 : Cond.methodLink own index Lib.Math.max.name ∈ wB) (h2 : 1 ≤ R.frames) (h3 : (rest.map fun v => v.category).sum + 13 ≤ R.locals) (h4 : cells ≤ R.cells) (h5 : slots ≤ R.slots) (hdg : decode cc pc = .ok (.invokestatic index, 3))
    (kk : W p l e R s m args below meth c H locs cells slots Q (F0 m (pc + 3) ls (.int (mxI x y) :: rest))) : W p l e R s m args below meth c H locs cells slots Q (F0 m pc ls (.int y :: .int x :: rest)) :=
  va_mmax C0.1 C0.2.1 (C0.2.2.1.trans hs.symm) C0.2.2.2.1 (C0.2.2.2.2 _ h1) (C0.2.2.2.2 _ wST_J9_max_7cf53) (C0.2.2.2.2 _ wIN_J9) (C0.2.2.2.2 _ wCO_J9_max_7cf53) h2 h3 h4 h5 hdg kk
theorem r_minl {x y : Int64} (C0 : CallFix p m c cc nL s args wB own) (hs : ls.size = nL) (h1 : Cond.methodLink own index Lib.MathLoose.min_long.x ∈ wB) (h2 : 1 ≤ R.frames) (h3 : (rest.map fun v => v.category).sum + 15 ≤ R.locals) (h4 : cells ≤ R.cells) (h5 : slots ≤ R.slots) (hdg : decode cc pc = .ok (.invokestatic index, 3))
    (kk : W p l e R s m args below meth c H locs cells slots Q (F0 m (pc + 3) ls (.long (mnL x y) :: rest))) : W p l e R s m args below meth c H locs cells slots Q (F0 m pc ls (.long y :: .long x :: rest)) :=
  va_mmin_long C0.1 C0.2.1 (C0.2.2.1.trans hs.symm) C0.2.2.2.1 (C0.2.2.2.2 _ h1) (C0.2.2.2.2 _ wST_J9_min_de441) (C0.2.2.2.2 _ wIN_J9) (C0.2.2.2.2 _ wCO_J9_min_de441) h2 h3 h4 h5 hdg kk
/-- a body that may throw -/
theorem ofX {av : List Value} {XC : String → State → State → Prop} (hy : plainName y.cls = true) (hyo : y.cls = own)
    (body : ∀ (p : Program) (e : Env) (s : State) (m : MethodId) (below : List Frame) (meth : Method) (c : Code), CallFix p m c cc maxL s av.toArray wB own → meth.sig.returnType = ret → meth.locks = false → lo ≤ s.heap.size → KW g s → ZW lo s s.heap → FW g h (Ax lo) σ s.heap → va_S (Ax lo) s.heap s.heap [] → (∀ x ∈ c.exceptionTable.toList, False) → ∀ ls : Array Slot, lv_has ls maxL (lv_args 0 av) →
      W p l e { frames := fr, cells := mc, slots := ms, locals := lw } s m av.toArray below meth c s.heap [] 0 0 (vx_MQ below Qc XC av.toArray s mc ms (Ax lo)) (F0 m 0 ls [])) (hlen : (lg_sl av).length ≤ maxL) :
    vx_Met l y (ws_ y cc maxL ret) { frames := fr, cells := mc, slots := ms, locals := lw } (va_Pc av (WD lo g h σ)) Qc XC mc ms (Ax lo) := by
  refine vx_ofW (cc := cc) (maxL := maxL) (ret := ret) hy rfl ?_
  intro p e s m args below meth c s₁ B hml htb hv
  obtain ⟨rfl, hlo, hW, hK, hZ⟩ := hv
  have hts := atoms_spec (ws := ws_ y cc maxL ret) B.pre
  have hown : s.vm.findClass own = some m.cls := hyo ▸ findClass_of_methodNamed B.named
  rw [lg_entry_eq]
  exact body p e s m below meth c ⟨B.exec, B.bytes, hml, hown, fun w hw => hts w (List.mem_cons_of_mem _ hw)⟩ B.returns B.notSynchronized hlo hK hZ hW va_S.rf htb _ (lv_entry av hlen)
theorem retX {r : Int32} {res : (Nat ⊕ Int32) × Sg} (C0 : CallFix p m c cc nL s args wB own) (hr : meth.sig.returnType = some .int) (hlk : meth.locks = false) (he : res.1 = .inr r) (hW : FW g h (Ax lo) res.2 H) (hS : va_S (Ax lo) s.heap H locs) (hdg : decode cc pc = .ok (.ireturn, 1)) :
    W p l e R s m args below meth c H locs cells slots (MQ below (va_Qi (fun (r' : Int32) (_ : Unit) => res.1 = .inr r') (fun _ t => FW g h (Ax lo) res.2 t.heap) (Ax lo)) args s cells slots (Ax lo)) (F0 m pc ls [.int r]) :=
  W.iret C0.1 C0.2.1 hr (fun t ht hw => ⟨⟨r, (), rfl, he, by rw [ht]; exact hW⟩, hS.F ht⟩) hS.2.2 hdg hlk
theorem retXZ {r : Int32} {res : (Nat ⊕ Int32) × Sg} (C0 : CallFix p m c cc nL s args wB own) (hr : meth.sig.returnType = some .boolean) (hlk : meth.locks = false) (hz : r = 0 ∨ r = 1) (he : res.1 = .inr r) (hW : FW g h (Ax lo) res.2 H) (hS : va_S (Ax lo) s.heap H locs) (hdg : decode cc pc = .ok (.ireturn, 1)) :
    W p l e R s m args below meth c H locs cells slots (MQ below (va_Qi (fun (r' : Int32) (_ : Unit) => res.1 = .inr r') (fun _ t => FW g h (Ax lo) res.2 t.heap) (Ax lo)) args s cells slots (Ax lo)) (F0 m pc ls [.int r]) :=
  W.zret C0.1 C0.2.1 hr (by rcases hz with rfl | rfl <;> rfl) (fun t ht hw => ⟨⟨r, (), rfl, he, by rw [ht]; exact hW⟩, hS.F ht⟩) hS.2.2 hdg hlk
theorem vxA1 : ∀ w ∈ vx_atS RX4 59 (exN 1) ["java/lang/RuntimeException", "java/lang/Exception"], w ∈ wB := by decide +kernel
theorem vxA2 : ∀ w ∈ vx_atS RX4 36 (exN 2) ["java/lang/RuntimeException", "java/lang/Exception"], w ∈ wB := by decide +kernel
theorem vxA3 : ∀ w ∈ vx_atS RX4 47 (exN 3) ["java/lang/RuntimeException", "java/lang/Exception"], w ∈ wB := by decide +kernel
theorem wB_ot {w : Cond} (h : w ∈ wB) : vx_ot w = true := by
  rcases (wB_good w h).2 with h1 | ⟨ty, rfl⟩
  · simp only [Bool.and_eq_true] at h1
    simp [vx_ot, h1.1]
  · rfl
end ROWS
