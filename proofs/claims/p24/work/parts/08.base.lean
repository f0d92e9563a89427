/-! THE WORLD BY ROLES: a cell is (kind, number); the state is two functions, kind, number, place ↦ value.
kinds: 0 the parlour, 1 its row of springs, 2 its row of birds, 3 the songs, 4 the kept notes, 5 a spring, 6 a bird, 7 its levers, 8 its notes, 9 its row of cams, 10 a cam (3 * bird + cam), 11 marks, 12 lifts.
Beside the roles: the law's own cells, by their addresses (the last part of Gx); contracts of the class keep them by being stated for every g. -/
abbrev Sg : Type := (Nat → Nat → Nat → Int32) × (Nat → Nat → Nat → Int64)
/-- springs, birds, addresses -/
abbrev Sh : Type := Nat × Nat × (Nat → Nat → Nat)
/-- classes; classes of arrays; texts; the law's classes of arrays (0 int[][], 1 int[][][], 2 boolean[][], 3 birds); the law's cells -/
abbrev Gx : Type := va_G × (ClassId × ClassId × ClassId × ClassId × ClassId × ClassId) × (Nat → Nat) × (Nat → ClassId) × (Nat → Option va_E)
def sI (σ : Sg) (k i f : Nat) (v : Int32) : Sg := (fun k' i' f' => if k' = k ∧ i' = i ∧ f' = f then v else σ.1 k' i' f', σ.2)
def sL (σ : Sg) (k i f : Nat) (v : Int64) : Sg := (σ.1, fun k' i' f' => if k' = k ∧ i' = i ∧ f' = f then v else σ.2 k' i' f')
def al (h : Sh) (k i : Nat) : Prop := (k ≤ 4 ∧ i = 0) ∨ (k = 5 ∧ i < h.1) ∨ (6 ≤ k ∧ k ≤ 9 ∧ i < h.2.1) ∨ (10 ≤ k ∧ k ≤ 12 ∧ i < 3 * h.2.1)
def aln (k : Nat) : Nat := if k = 4 then 1000 else if k = 7 then 96 else if k = 8 then 6 else if k = 11 then 96 else if k = 12 then 96 else 0
def iO (n j : Nat) : Option Nat := if j < n then some j else none
def spF (h : Sh) (j : Nat) : Option Nat := (iO h.1 j).map (h.2.2 5)
def bdF (h : Sh) (j : Nat) : Option Nat := (iO h.2.1 j).map (h.2.2 6)
def cmF (h : Sh) (i j : Nat) : Option Nat := if j < 3 then some (h.2.2 10 (3 * i + j)) else none
/-- what the cell of a role holds -/
def cF (g : Gx) (h : Sh) (I : Nat → Int32) (L : Nat → Int64) (k i : Nat) : va_E :=
  if aln k ≠ 0 then .inl (g.2.1.1, aln k, .inl I)
  else if k = 0 then .inr (4, [.ref (h.2.2 1 0), .ref (h.2.2 2 0), .ref (h.2.2 3 0), .int (I 3), .int (I 4), .int (I 5), .int (I 6)])
  else if k = 1 then .inl (g.2.1.2.2.2.1, 4, .inr (.inr (.inr (.inr (spF h)))))
  else if k = 2 then .inl (g.2.1.2.2.2.2.1, 8, .inr (.inr (.inr (.inr (bdF h)))))
  else if k = 3 then .inr (2, [.ref (h.2.2 4 0), .int (I 1), .int (I 2), .int (I 3), .int (I 4)])
  else if k = 5 then .inr (3, [.int (I 0), .int (I 1), .long (L 2), .int (I 3), .int (I 4), .int (I 5), .long (L 6), .int (I 7)])
  else if k = 6 then .inr (0, [.int (I 0), .int (I 1), .int (I 2), .int (I 3), .int (I 4), .ref (h.2.2 7 i), .ref (h.2.2 8 i), .ref (h.2.2 9 i), .int (I 8), .int (I 9), .long (L 10), .long (L 11), .int (I 12), .long (L 13), .int (I 14)])
  else if k = 9 then .inl (g.2.1.2.2.2.2.2, 3, .inr (.inr (.inr (.inr (cmF h i)))))
  else .inr (1, [.ref (h.2.2 11 i), .ref (h.2.2 12 i), .int (I 2)])
def ct (g : Gx) (h : Sh) (σ : Sg) (k i : Nat) : va_E := cF g h (σ.1 k i) (σ.2 k i) k i
/-- the law's cells in the pool, apart from the roles -/
def XW (X : Nat → Option va_E) (h : Sh) (L : List Nat) (f : Nat → va_E) : Prop := ∀ (q : Nat) (e : va_E), X q = some e → q ∈ L ∧ f q = e ∧ ∀ k i, al h k i → h.2.2 k i ≠ q
def FW (g : Gx) (h : Sh) (A : Nat → Prop) (σ : Sg) (H : Heap) : Prop :=
  ∃ (L : List Nat) (f : Nat → va_E), va_P g.1 vwCl (va_pl L f) H ∧ va_D A (va_pl L f) ∧ (∀ k i, al h k i → h.2.2 k i ∈ L ∧ f (h.2.2 k i) = ct g h σ k i) ∧ (∀ k i k' i', al h k i → al h k' i' → h.2.2 k i = h.2.2 k' i' → k = k' ∧ i = i') ∧ XW g.2.2.2.2 h L f
def tysG (g : Gx) : List (ClassId × FieldType) := [(g.2.1.1, .int), (g.2.1.2.1, .boolean), (g.2.1.2.2.1, .long), (g.2.1.2.2.2.1, .object RX3), (g.2.1.2.2.2.2.1, .object RX0), (g.2.1.2.2.2.2.2, .object RX1), (g.2.2.2.1 0, .array .int), (g.2.2.2.1 1, .array (.array .int)), (g.2.2.2.1 2, .array .boolean), (g.2.2.2.1 3, .object RX5)]
def nstW : List (String × Nat × MethodName × String) := [(RX4, 23, yX2_init, "BirdParlour"), (RX0, 71, yX4_at, "BirdParlour"), (RX0, 67, yX4_isIn, "BirdParlour"), (RX2, 28, yX4_put, "BirdParlour"), (RX2, 32, yX4_at, "BirdParlour"), (RL, 11, yX6_init, "BirdParlourLaw"), (RL, 49, yX5_init, "BirdParlourLaw"), (RX0, 48, yX1_init, "BirdParlour"), (RX0, 82, yX4_put, "BirdParlour"), (RX1, 18, yX4_at, "BirdParlour"), (RX1, 30, yX4_put, "BirdParlour"), (RX1, 42, yX4_remainder, "BirdParlour")]
def KW (g : Gx) (U : State) : Prop := va_K g.1 vwCl (tysG g) U ∧ (∀ q ∈ nstW, va_Nw (.methodLinkNest q.1 q.2.1 q.2.2.1 q.2.2.2) U) ∧ va_AO RX3 U ∧ va_AO RX0 U ∧ va_AO RX1 U ∧ va_AO RX5 U ∧ va_AOA .int U ∧ va_AOA .boolean U ∧ va_AOA (.array .int) U
def Ax (lo : Nat) : Nat → Prop := fun q => lo ≤ q
/-- nothing is wanted here (no call of this law throws) -/
def ZW (_ : Nat) (_ : State) (_ : Heap) : Prop := True
def WD (lo : Nat) (g : Gx) (h : Sh) (σ : Sg) (U : State) : Prop := lo ≤ U.heap.size ∧ FW g h (Ax lo) σ U.heap ∧ KW g U ∧ ZW lo U U.heap
theorem va_AOA.moved {t : FieldType} {u U : State} (hvm : u.vm.Alike U.vm) (h : va_AOA t u) : va_AOA t U := by
  obtain ⟨comp, c, k, h1, h2, h3, h4, h5⟩ := arrayOverA_spec (t := t) (va_AOA.use (A := #[]) h)
  obtain ⟨k', hk', he⟩ := hvm.2.2 _ _ h3
  have hi : (U.vm.classes.findIdx? fun (x : Class) => match x.kind with | .array component _ => component == comp | _ => false) = some c := by
    rw [hvm.findIdx?_eq _ (fun _ => rfl)]
    exact h2
  have hkind : k'.kind = .array comp (.array t) := by rw [he]; exact h4
  have f1 : U.vm.findClass (FieldType.array t).toString = some comp := by rw [hvm.findClass]; exact h1
  have f2 : U.vm.findClass ("[" ++ (FieldType.array t).toString) = some c := by rw [hvm.findClass]; exact h5
  unfold va_AOA Cond.before Cond.holds
  simp only [Cond.value]
  rw [f1, Option.bind_some]
  refine (congrArg (fun o : Option Nat => (o.bind (fun c => (U.vm.classes[c]?).map fun (k : Class) => match k.kind with | .array _ ty => decide (ty = FieldType.array t) && decide (U.vm.findClass ("[" ++ (FieldType.array t).toString) = some c) | _ => false) == some true)) hi).trans ?_
  simp [hk', hkind, f2]
theorem KW.warm {g : Gx} {s U : State} (hW : s.WarmedH U.vm) (h : KW g s) : KW g U :=
  ⟨va_K.moved hW.alike h.1, fun q hq => va_Nw.warmM hW (h.2.1 q hq), va_AO.moved hW.alike h.2.2.1, va_AO.moved hW.alike h.2.2.2.1, va_AO.moved hW.alike h.2.2.2.2.1, va_AO.moved hW.alike h.2.2.2.2.2.1, va_AOA.moved hW.alike h.2.2.2.2.2.2.1, va_AOA.moved hW.alike h.2.2.2.2.2.2.2.1, va_AOA.moved hW.alike h.2.2.2.2.2.2.2.2⟩
theorem KW.call {g : Gx} {U : State} {gf : JFrame} {mk : MethodId} {a : Array Value} (h : KW g U) : KW g (U.calling gf mk a) :=
  have r : U.vm.Alike (U.calling gf mk a).vm := Vm.Alike.refl U.vm
  ⟨va_K.moved (u := U) r h.1, fun q hq => va_Nw.same (u := U) (U := U.calling gf mk a) rfl rfl (h.2.1 q hq), va_AO.moved r h.2.2.1, va_AO.moved r h.2.2.2.1, va_AO.moved r h.2.2.2.2.1, va_AO.moved r h.2.2.2.2.2.1, va_AOA.moved r h.2.2.2.2.2.2.1, va_AOA.moved r h.2.2.2.2.2.2.2.1, va_AOA.moved r h.2.2.2.2.2.2.2.2⟩
theorem WD.blind {lo : Nat} {g : Gx} {h : Sh} {σ : Sg} {args : List Value} : FrameBlind (va_Pc args (WD lo g h σ)) := fun _ _ _ _ q => ⟨q.1, q.2.1, q.2.2.1, q.2.2.2.1.call, trivial⟩
theorem WD.at {lo : Nat} {g : Gx} {h : Sh} {σ : Sg} {s : State} {H : Heap} {locs : List Loc} (hlo : lo ≤ s.heap.size) (hK : KW g s) (hZ : ZW lo s s.heap) (hW : FW g h (Ax lo) σ H) (hS : va_S (Ax lo) s.heap H locs) : ∀ U : State, U.heap = H → s.WarmedH U.vm → WD lo g h σ U :=
  fun U hU hw => ⟨by rw [hU]; exact Nat.le_trans hlo hS.1, by rw [hU]; exact hW, hK.warm hw, trivial⟩
theorem cF_arr (g : Gx) (h : Sh) (I : Nat → Int32) (L : Nat → Int64) {k : Nat} (i : Nat) (hk : aln k ≠ 0) : cF g h I L k i = .inl (g.2.1.1, aln k, .inl I) := if_pos hk
theorem FW.cut {g : Gx} {h : Sh} {A : Nat → Prop} {σ : Sg} {H : Heap} (hF : FW g h A σ H) {k i : Nat} (ha : al h k i) :
    ∃ (ws : va_W) (q : Nat), va_P g.1 vwCl ws H ∧ va_D A ws ∧ ws[q]? = some (h.2.2 k i, ct g h σ k i) ∧
      ∀ (σ' : Sg) (H1 : Heap), (∀ k' i', (k' ≠ k ∨ i' ≠ i) → σ'.1 k' i' = σ.1 k' i' ∧ σ'.2 k' i' = σ.2 k' i') → va_P g.1 vwCl (ws.set q (h.2.2 k i, ct g h σ' k i)) H1 → va_D A (ws.set q (h.2.2 k i, ct g h σ' k i)) → FW g h A σ' H1 := by
  obtain ⟨L, f, hP, hD, hR, hJ, hX⟩ := hF
  obtain ⟨q, hq⟩ := va_pl_get (X := []) (f := f) (hR k i ha).1
  refine ⟨va_pl L f, q, hP, hD, ?_, fun σ' H1 hag hP1 hD1 => ?_⟩
  · rw [← (hR k i ha).2]; exact hq
  · have e : (va_pl L f).set q (h.2.2 k i, ct g h σ' k i) = va_pl L (va_up f (h.2.2 k i) (ct g h σ' k i)) := va_pl_set (X := []) hD (hR k i ha).1 hq
    rw [e] at hP1 hD1
    refine ⟨L, _, hP1, hD1, fun k' i' ha' => ⟨(hR k' i' ha').1, ?_⟩, hJ, fun z e hz => ⟨(hX z e hz).1, by rw [va_up_ne _ _ (Ne.symm ((hX z e hz).2.2 k i ha))]; exact (hX z e hz).2.1, (hX z e hz).2.2⟩⟩
    by_cases hx : k' = k ∧ i' = i
    · obtain ⟨rfl, rfl⟩ := hx
      exact va_up_self _ _ _
    · have hne : h.2.2 k' i' ≠ h.2.2 k i := fun q => hx (hJ k' i' k i ha' ha q)
      rw [va_up_ne _ _ hne, (hR k' i' ha').2]
      obtain ⟨e1, e2⟩ := hag k' i' (by rcases Classical.em (k' = k) with q | q; exact Or.inr (fun z => hx ⟨q, z⟩); exact Or.inl q)
      unfold ct
      rw [e1, e2]
theorem sI_off {σ : Sg} {k i f : Nat} {v : Int32} (k' i' : Nat) (h : k' ≠ k ∨ i' ≠ i) : (sI σ k i f v).1 k' i' = σ.1 k' i' ∧ (sI σ k i f v).2 k' i' = σ.2 k' i' :=
  ⟨funext fun f' => if_neg (fun q => h.elim (fun z => z q.1) (fun z => z q.2.1)), rfl⟩
theorem sL_off {σ : Sg} {k i f : Nat} {v : Int64} (k' i' : Nat) (h : k' ≠ k ∨ i' ≠ i) : (sL σ k i f v).1 k' i' = σ.1 k' i' ∧ (sL σ k i f v).2 k' i' = σ.2 k' i' :=
  ⟨rfl, funext fun f' => if_neg (fun q => h.elim (fun z => z q.1) (fun z => z q.2.1))⟩
theorem sI_on (σ : Sg) (k i f : Nat) (v : Int32) : (sI σ k i f v).1 k i = upd (σ.1 k i) f v := by
  funext j; simp [sI, upd]
theorem sI_on2 (σ : Sg) (k i f : Nat) (v : Int32) : (sI σ k i f v).2 k i = σ.2 k i := rfl
theorem sL_on (σ : Sg) (k i f : Nat) (v : Int64) : (sL σ k i f v).2 k i = vp_updL (σ.2 k i) f v := by
  funext j; simp [sL, vp_updL]
theorem sL_on1 (σ : Sg) (k i f : Nat) (v : Int64) : (sL σ k i f v).1 k i = σ.1 k i := rfl
section RW
variable {p : Program} {l : Launch} {e : Env} {R : Room} {s : State} {m : MethodId} {args : Array Value} {below : List Frame} {meth : Method} {c : Code} {H : Heap} {locs : List Loc} {cells slots : Nat} {Q : State → Prop}
variable {cc : ByteArray} {pc nL : Nat} {ls : Array Slot} {rest : List Value} {A : Nat → Prop} {H0 : Heap} {own : String} {g : Gx} {h : Sh} {σ : Sg}
theorem getI (C0 : CallFix p m c cc nL s args wB own) (hK : KW g s) (hW : FW g h A σ H) (k i : Nat) (ha : al h k i) {ci : Nat} {fs : List Value} (he : ct g h σ k i = .inr (ci, fs)) {C : String} {T : u_T} {N : Nat} (hc : vwCl[ci]? = some (C, T, N)) (hin : ∀ w ∈ u_ws C T N, w ∈ wB) (f : Nat) (hf : f < N) {index : Nat} (hl : Cond.fieldLink own index C (T f).2.1 (T f).2.2.1 ∈ wB) (hd : (T f).1 = C) {v : Value} (hv : fs[f]? = some v) (hdg : decode cc pc = .ok (.getfield index, 3))
    (kk : W p l e R s m args below meth c H locs cells slots Q (F0 m (pc + 3) ls (v :: rest))) : W p l e R s m args below meth c H locs cells slots Q (F0 m pc ls (.ref (h.2.2 k i) :: rest)) := by
  obtain ⟨ws, q, hP, -, hq, -⟩ := hW.cut ha
  rw [he] at hq
  exact va_get C0.1 C0.2.1 C0.2.2.2.2 hin C0.2.2.2.1 hK.1 hP q hq hc f hf (C0.2.2.2.2 _ hl) (fun x hx => hd ▸ hx) hv hdg kk
theorem putG (C0 : CallFix p m c cc nL s args wB own) (hK : KW g s) (hW : FW g h A σ H) (hS : va_S A H0 H locs) (k i : Nat) (ha : al h k i) {ci : Nat} {fs : List Value} (he : ct g h σ k i = .inr (ci, fs)) {C : String} {T : u_T} {N : Nat} (hc : vwCl[ci]? = some (C, T, N)) (hin : ∀ w ∈ u_ws C T N, w ∈ wB) {tyo : Nat → FieldType} (hty : ∀ k, k < N → parseFieldDescriptor (T k).2.2.1 = some (tyo k)) (hnm : ∀ a, a < N → ∀ b, b < N → a ≠ b → (T a).2.1 ≠ (T b).2.1) (f : Nat) (hf : f < N) {index : Nat} (hl : Cond.fieldLink own index C (T f).2.1 (T f).2.2.1 ∈ wB) (hd : (T f).1 = C) (hfin : (T f).2.2.2 = false) {v : Value} (hn : narrow (tyo f) v = v) (hfit : fits (tyo f) v = true) (hlen : f < fs.length) (σ' : Sg) (hoff : ∀ k' i', (k' ≠ k ∨ i' ≠ i) → σ'.1 k' i' = σ.1 k' i' ∧ σ'.2 k' i' = σ.2 k' i') (hon : ct g h σ' k i = .inr (ci, fs.set f v))
    (hdg : decode cc pc = .ok (.putfield index, 3)) (kk : ∀ (H1 : Heap) (locs1 : List Loc), FW g h A σ' H1 → va_S A H0 H1 locs1 → W p l e R s m args below meth c H1 locs1 cells slots Q (F0 m (pc + 3) ls rest)) : W p l e R s m args below meth c H locs cells slots Q (F0 m pc ls (v :: .ref (h.2.2 k i) :: rest)) := by
  obtain ⟨ws, q, hP, hD, hq, back⟩ := hW.cut ha
  rw [he] at hq
  refine va_put C0.1 C0.2.1 C0.2.2.2.2 hin tyo hty hnm C0.2.2.2.1 hK.1 hP hD hS q hq hc f hf (C0.2.2.2.2 _ hl) (fun x hx => hd ▸ hx) hfin (hty f hf) hn hfit hlen hdg (fun H1 locs1 hP1 hD1 hS1 => ?_)
  rw [← hon] at hP1 hD1
  exact kk H1 locs1 (back σ' H1 hoff hP1 hD1) hS1
theorem ald (C0 : CallFix p m c cc nL s args wB own) (hK : KW g s) (hW : FW g h A σ H) (k i : Nat) (ha : al h k i) (hk : aln k ≠ 0) {x : Int32} (hin : vp_in x (aln k)) (hdg : decode cc pc = .ok (.iaload, 1))
    (kk : W p l e R s m args below meth c H locs cells slots Q (F0 m (pc + 1) ls (.int (σ.1 k i x.toNatClampNeg) :: rest))) : W p l e R s m args below meth c H locs cells slots Q (F0 m pc ls (.int x :: .ref (h.2.2 k i) :: rest)) := by
  obtain ⟨ws, q, hP, -, hq, -⟩ := hW.cut ha
  rw [show ct g h σ k i = .inl (g.2.1.1, aln k, .inl (σ.1 k i)) from if_pos hk] at hq
  exact va_iald C0.1 C0.2.1 hK.1 hP q 0 hq rfl hin hdg kk
theorem ast (C0 : CallFix p m c cc nL s args wB own) (hK : KW g s) (hW : FW g h A σ H) (hS : va_S A H0 H locs) (k i : Nat) (ha : al h k i) (hk : aln k ≠ 0) {x v : Int32} (hin : vp_in x (aln k)) (hdg : decode cc pc = .ok (.iastore, 1))
    (kk : ∀ (H1 : Heap) (locs1 : List Loc), FW g h A (sI σ k i x.toNatClampNeg v) H1 → va_S A H0 H1 locs1 → W p l e R s m args below meth c H1 locs1 cells slots Q (F0 m (pc + 1) ls rest)) : W p l e R s m args below meth c H locs cells slots Q (F0 m pc ls (.int v :: .int x :: .ref (h.2.2 k i) :: rest)) := by
  obtain ⟨ws, q, hP, hD, hq, back⟩ := hW.cut ha
  rw [show ct g h σ k i = .inl (g.2.1.1, aln k, .inl (σ.1 k i)) from if_pos hk] at hq
  refine va_iast C0.1 C0.2.1 hK.1 hP hD hS q 0 hq rfl hin hdg (fun H1 locs1 hP1 hD1 hS1 => ?_)
  rw [← sI_on, ← (show ct g h (sI σ k i x.toNatClampNeg v) k i = .inl (g.2.1.1, aln k, .inl ((sI σ k i x.toNatClampNeg v).1 k i)) from if_pos hk)] at hP1 hD1
  exact kk H1 locs1 (back _ H1 sI_off hP1 hD1) hS1
theorem alen (C0 : CallFix p m c cc nL s args wB own) (hK : KW g s) (hW : FW g h A σ H) (k i : Nat) (ha : al h k i) (hk : aln k ≠ 0) {v : Int32} (hv : Int32.ofNat (aln k) = v) (hdg : decode cc pc = .ok (.arraylength, 1))
    (kk : W p l e R s m args below meth c H locs cells slots Q (F0 m (pc + 1) ls (.int v :: rest))) : W p l e R s m args below meth c H locs cells slots Q (F0 m pc ls (.ref (h.2.2 k i) :: rest)) := by
  obtain ⟨ws, q, hP, -, hq, -⟩ := hW.cut ha
  rw [show ct g h σ k i = .inl (g.2.1.1, aln k, .inl (σ.1 k i)) from if_pos hk] at hq
  exact va_alen C0.1 C0.2.1 hK.1 hP q 0 hq rfl hv hdg kk
theorem ct1 (i : Nat) : ct g h σ 1 i = .inl (g.2.1.2.2.2.1, 4, .inr (.inr (.inr (.inr (spF h))))) := rfl
theorem ct2 (i : Nat) : ct g h σ 2 i = .inl (g.2.1.2.2.2.2.1, 8, .inr (.inr (.inr (.inr (bdF h))))) := rfl
theorem ct9 (i : Nat) : ct g h σ 9 i = .inl (g.2.1.2.2.2.2.2, 3, .inr (.inr (.inr (.inr (cmF h i))))) := rfl
theorem al0 (h : Sh) (k : Nat) (hk : k ≤ 4) : al h k 0 := Or.inl ⟨hk, rfl⟩
theorem al5 {h : Sh} {i : Nat} (hi : i < h.1) : al h 5 i := Or.inr (Or.inl ⟨rfl, hi⟩)
theorem al6 {h : Sh} (k : Nat) {i : Nat} (hi : i < h.2.1) (hk : 6 ≤ k ∧ k ≤ 9) : al h k i := Or.inr (Or.inr (Or.inl ⟨hk.1, hk.2, hi⟩))
theorem al10 {h : Sh} (k : Nat) {i : Nat} (hi : i < 3 * h.2.1) (hk : 10 ≤ k ∧ k ≤ 12) : al h k i := Or.inr (Or.inr (Or.inr ⟨hk.1, hk.2, hi⟩))
theorem len1 (C0 : CallFix p m c cc nL s args wB own) (hK : KW g s) (hW : FW g h A σ H) (hdg : decode cc pc = .ok (.arraylength, 1))
    (kk : W p l e R s m args below meth c H locs cells slots Q (F0 m (pc + 1) ls (.int 4 :: rest))) : W p l e R s m args below meth c H locs cells slots Q (F0 m pc ls (.ref (h.2.2 1 0) :: rest)) := by
  obtain ⟨ws, q, hP, -, hq, -⟩ := hW.cut (al0 h 1 (by decide))
  exact va_alen C0.1 C0.2.1 hK.1 hP q 3 hq rfl (show Int32.ofNat 4 = 4 by decide) hdg kk
theorem len2 (C0 : CallFix p m c cc nL s args wB own) (hK : KW g s) (hW : FW g h A σ H) (hdg : decode cc pc = .ok (.arraylength, 1))
    (kk : W p l e R s m args below meth c H locs cells slots Q (F0 m (pc + 1) ls (.int 8 :: rest))) : W p l e R s m args below meth c H locs cells slots Q (F0 m pc ls (.ref (h.2.2 2 0) :: rest)) := by
  obtain ⟨ws, q, hP, -, hq, -⟩ := hW.cut (al0 h 2 (by decide))
  exact va_alen C0.1 C0.2.1 hK.1 hP q 4 hq rfl (show Int32.ofNat 8 = 8 by decide) hdg kk
theorem len9 (C0 : CallFix p m c cc nL s args wB own) (hK : KW g s) (hW : FW g h A σ H) (i : Nat) (hi : i < h.2.1) (hdg : decode cc pc = .ok (.arraylength, 1))
    (kk : W p l e R s m args below meth c H locs cells slots Q (F0 m (pc + 1) ls (.int 3 :: rest))) : W p l e R s m args below meth c H locs cells slots Q (F0 m pc ls (.ref (h.2.2 9 i) :: rest)) := by
  obtain ⟨ws, q, hP, -, hq, -⟩ := hW.cut (al6 9 hi (by decide))
  exact va_alen C0.1 C0.2.1 hK.1 hP q 5 hq rfl (show Int32.ofNat 3 = 3 by decide) hdg kk
theorem ld1 (C0 : CallFix p m c cc nL s args wB own) (hK : KW g s) (hW : FW g h A σ H) {x : Int32} (hin : vp_in x 4) (hdg : decode cc pc = .ok (.aaload, 1))
    (kk : W p l e R s m args below meth c H locs cells slots Q (F0 m (pc + 1) ls (va_rf ((iO h.1 x.toNatClampNeg).map (h.2.2 5)) :: rest))) : W p l e R s m args below meth c H locs cells slots Q (F0 m pc ls (.int x :: .ref (h.2.2 1 0) :: rest)) := by
  obtain ⟨ws, q, hP, -, hq, -⟩ := hW.cut (al0 h 1 (by decide))
  exact va_aldq C0.1 C0.2.1 hK.1 hP q 3 hq rfl hin hdg kk
theorem ld2 (C0 : CallFix p m c cc nL s args wB own) (hK : KW g s) (hW : FW g h A σ H) {x : Int32} (hin : vp_in x 8) (hdg : decode cc pc = .ok (.aaload, 1))
    (kk : W p l e R s m args below meth c H locs cells slots Q (F0 m (pc + 1) ls (va_rf ((iO h.2.1 x.toNatClampNeg).map (h.2.2 6)) :: rest))) : W p l e R s m args below meth c H locs cells slots Q (F0 m pc ls (.int x :: .ref (h.2.2 2 0) :: rest)) := by
  obtain ⟨ws, q, hP, -, hq, -⟩ := hW.cut (al0 h 2 (by decide))
  exact va_aldq C0.1 C0.2.1 hK.1 hP q 4 hq rfl hin hdg kk
theorem ld9 (C0 : CallFix p m c cc nL s args wB own) (hK : KW g s) (hW : FW g h A σ H) (i : Nat) (hi : i < h.2.1) {x : Int32} (hin : vp_in x 3) (hdg : decode cc pc = .ok (.aaload, 1))
    (kk : W p l e R s m args below meth c H locs cells slots Q (F0 m (pc + 1) ls (.ref (h.2.2 10 (3 * i + x.toNatClampNeg)) :: rest))) : W p l e R s m args below meth c H locs cells slots Q (F0 m pc ls (.int x :: .ref (h.2.2 9 i) :: rest)) := by
  obtain ⟨ws, q, hP, -, hq, -⟩ := hW.cut (al6 9 hi (by decide))
  refine va_aldq C0.1 C0.2.1 hK.1 hP q 5 hq rfl hin hdg ?_
  rw [show cmF h i x.toNatClampNeg = some (h.2.2 10 (3 * i + x.toNatClampNeg)) from if_pos (Nat.not_le.mp fun z => hin (Or.inr z))]
  exact kk
theorem ct0 (i : Nat) : ct g h σ 0 i = .inr (4, [.ref (h.2.2 1 0), .ref (h.2.2 2 0), .ref (h.2.2 3 0), .int (σ.1 0 i 3), .int (σ.1 0 i 4), .int (σ.1 0 i 5), .int (σ.1 0 i 6)]) := rfl
theorem get0 (C0 : CallFix p m c cc nL s args wB own) (hK : KW g s) (hW : FW g h A σ H) (i : Nat) (ha : al h 0 i) (f : Nat) (hf : f < 7) {index : Nat} (hl : Cond.fieldLink own index RX4 (TX4 f).2.1 (TX4 f).2.2.1 ∈ wB) (hd : (TX4 f).1 = RX4) {v : Value} (hv : ([.ref (h.2.2 1 0), .ref (h.2.2 2 0), .ref (h.2.2 3 0), .int (σ.1 0 i 3), .int (σ.1 0 i 4), .int (σ.1 0 i 5), .int (σ.1 0 i 6)] : List Value)[f]? = some v) (hdg : decode cc pc = .ok (.getfield index, 3))
    (kk : W p l e R s m args below meth c H locs cells slots Q (F0 m (pc + 3) ls (v :: rest))) : W p l e R s m args below meth c H locs cells slots Q (F0 m pc ls (.ref (h.2.2 0 i) :: rest)) := getI C0 hK hW 0 i ha (ct0 i) (ci := 4) (C := RX4) (T := TX4) (N := 7) rfl inX4_B f hf hl hd hv hdg kk
theorem put0_3 (C0 : CallFix p m c cc nL s args wB own) (hK : KW g s) (hW : FW g h A σ H) (hS : va_S A H0 H locs) (i : Nat) (ha : al h 0 i) {v : Int32} {index : Nat} (hl : Cond.fieldLink own index RX4 (TX4 3).2.1 (TX4 3).2.2.1 ∈ wB) (hdg : decode cc pc = .ok (.putfield index, 3))
    (kk : ∀ (H1 : Heap) (locs1 : List Loc), FW g h A (sI σ 0 i 3 v) H1 → va_S A H0 H1 locs1 → W p l e R s m args below meth c H1 locs1 cells slots Q (F0 m (pc + 3) ls rest)) : W p l e R s m args below meth c H locs cells slots Q (F0 m pc ls (.int v :: .ref (h.2.2 0 i) :: rest)) :=
  putG C0 hK hW hS 0 i ha (ct0 i) (ci := 4) (C := RX4) (T := TX4) (N := 7) rfl inX4_B tyX4_ok nmX4 3 (by decide) hl rfl rfl rfl rfl (by simp) (sI σ 0 i 3 v) sI_off (by rw [ct0]; unfold sI; simp) hdg kk
theorem put0_4 (C0 : CallFix p m c cc nL s args wB own) (hK : KW g s) (hW : FW g h A σ H) (hS : va_S A H0 H locs) (i : Nat) (ha : al h 0 i) {v : Int32} {index : Nat} (hl : Cond.fieldLink own index RX4 (TX4 4).2.1 (TX4 4).2.2.1 ∈ wB) (hdg : decode cc pc = .ok (.putfield index, 3))
    (kk : ∀ (H1 : Heap) (locs1 : List Loc), FW g h A (sI σ 0 i 4 v) H1 → va_S A H0 H1 locs1 → W p l e R s m args below meth c H1 locs1 cells slots Q (F0 m (pc + 3) ls rest)) : W p l e R s m args below meth c H locs cells slots Q (F0 m pc ls (.int v :: .ref (h.2.2 0 i) :: rest)) :=
  putG C0 hK hW hS 0 i ha (ct0 i) (ci := 4) (C := RX4) (T := TX4) (N := 7) rfl inX4_B tyX4_ok nmX4 4 (by decide) hl rfl rfl rfl rfl (by simp) (sI σ 0 i 4 v) sI_off (by rw [ct0]; unfold sI; simp) hdg kk
theorem put0_5 (C0 : CallFix p m c cc nL s args wB own) (hK : KW g s) (hW : FW g h A σ H) (hS : va_S A H0 H locs) (i : Nat) (ha : al h 0 i) {v : Int32} {index : Nat} (hl : Cond.fieldLink own index RX4 (TX4 5).2.1 (TX4 5).2.2.1 ∈ wB) (hdg : decode cc pc = .ok (.putfield index, 3))
    (kk : ∀ (H1 : Heap) (locs1 : List Loc), FW g h A (sI σ 0 i 5 v) H1 → va_S A H0 H1 locs1 → W p l e R s m args below meth c H1 locs1 cells slots Q (F0 m (pc + 3) ls rest)) : W p l e R s m args below meth c H locs cells slots Q (F0 m pc ls (.int v :: .ref (h.2.2 0 i) :: rest)) :=
  putG C0 hK hW hS 0 i ha (ct0 i) (ci := 4) (C := RX4) (T := TX4) (N := 7) rfl inX4_B tyX4_ok nmX4 5 (by decide) hl rfl rfl rfl rfl (by simp) (sI σ 0 i 5 v) sI_off (by rw [ct0]; unfold sI; simp) hdg kk
theorem put0_6 (C0 : CallFix p m c cc nL s args wB own) (hK : KW g s) (hW : FW g h A σ H) (hS : va_S A H0 H locs) (i : Nat) (ha : al h 0 i) {v : Int32} {index : Nat} (hl : Cond.fieldLink own index RX4 (TX4 6).2.1 (TX4 6).2.2.1 ∈ wB) (hdg : decode cc pc = .ok (.putfield index, 3))
    (kk : ∀ (H1 : Heap) (locs1 : List Loc), FW g h A (sI σ 0 i 6 v) H1 → va_S A H0 H1 locs1 → W p l e R s m args below meth c H1 locs1 cells slots Q (F0 m (pc + 3) ls rest)) : W p l e R s m args below meth c H locs cells slots Q (F0 m pc ls (.int v :: .ref (h.2.2 0 i) :: rest)) :=
  putG C0 hK hW hS 0 i ha (ct0 i) (ci := 4) (C := RX4) (T := TX4) (N := 7) rfl inX4_B tyX4_ok nmX4 6 (by decide) hl rfl rfl rfl rfl (by simp) (sI σ 0 i 6 v) sI_off (by rw [ct0]; unfold sI; simp) hdg kk
theorem ct3 (i : Nat) : ct g h σ 3 i = .inr (2, [.ref (h.2.2 4 0), .int (σ.1 3 i 1), .int (σ.1 3 i 2), .int (σ.1 3 i 3), .int (σ.1 3 i 4)]) := rfl
theorem get3 (C0 : CallFix p m c cc nL s args wB own) (hK : KW g s) (hW : FW g h A σ H) (i : Nat) (ha : al h 3 i) (f : Nat) (hf : f < 5) {index : Nat} (hl : Cond.fieldLink own index RX2 (TX2 f).2.1 (TX2 f).2.2.1 ∈ wB) (hd : (TX2 f).1 = RX2) {v : Value} (hv : ([.ref (h.2.2 4 0), .int (σ.1 3 i 1), .int (σ.1 3 i 2), .int (σ.1 3 i 3), .int (σ.1 3 i 4)] : List Value)[f]? = some v) (hdg : decode cc pc = .ok (.getfield index, 3))
    (kk : W p l e R s m args below meth c H locs cells slots Q (F0 m (pc + 3) ls (v :: rest))) : W p l e R s m args below meth c H locs cells slots Q (F0 m pc ls (.ref (h.2.2 3 i) :: rest)) := getI C0 hK hW 3 i ha (ct3 i) (ci := 2) (C := RX2) (T := TX2) (N := 5) rfl inX2_B f hf hl hd hv hdg kk
theorem put3_1 (C0 : CallFix p m c cc nL s args wB own) (hK : KW g s) (hW : FW g h A σ H) (hS : va_S A H0 H locs) (i : Nat) (ha : al h 3 i) {v : Int32} {index : Nat} (hl : Cond.fieldLink own index RX2 (TX2 1).2.1 (TX2 1).2.2.1 ∈ wB) (hdg : decode cc pc = .ok (.putfield index, 3))
    (kk : ∀ (H1 : Heap) (locs1 : List Loc), FW g h A (sI σ 3 i 1 v) H1 → va_S A H0 H1 locs1 → W p l e R s m args below meth c H1 locs1 cells slots Q (F0 m (pc + 3) ls rest)) : W p l e R s m args below meth c H locs cells slots Q (F0 m pc ls (.int v :: .ref (h.2.2 3 i) :: rest)) :=
  putG C0 hK hW hS 3 i ha (ct3 i) (ci := 2) (C := RX2) (T := TX2) (N := 5) rfl inX2_B tyX2_ok nmX2 1 (by decide) hl rfl rfl rfl rfl (by simp) (sI σ 3 i 1 v) sI_off (by rw [ct3]; unfold sI; simp) hdg kk
theorem put3_2 (C0 : CallFix p m c cc nL s args wB own) (hK : KW g s) (hW : FW g h A σ H) (hS : va_S A H0 H locs) (i : Nat) (ha : al h 3 i) {v : Int32} {index : Nat} (hl : Cond.fieldLink own index RX2 (TX2 2).2.1 (TX2 2).2.2.1 ∈ wB) (hdg : decode cc pc = .ok (.putfield index, 3))
    (kk : ∀ (H1 : Heap) (locs1 : List Loc), FW g h A (sI σ 3 i 2 v) H1 → va_S A H0 H1 locs1 → W p l e R s m args below meth c H1 locs1 cells slots Q (F0 m (pc + 3) ls rest)) : W p l e R s m args below meth c H locs cells slots Q (F0 m pc ls (.int v :: .ref (h.2.2 3 i) :: rest)) :=
  putG C0 hK hW hS 3 i ha (ct3 i) (ci := 2) (C := RX2) (T := TX2) (N := 5) rfl inX2_B tyX2_ok nmX2 2 (by decide) hl rfl rfl rfl rfl (by simp) (sI σ 3 i 2 v) sI_off (by rw [ct3]; unfold sI; simp) hdg kk
theorem put3_3 (C0 : CallFix p m c cc nL s args wB own) (hK : KW g s) (hW : FW g h A σ H) (hS : va_S A H0 H locs) (i : Nat) (ha : al h 3 i) {v : Int32} {index : Nat} (hl : Cond.fieldLink own index RX2 (TX2 3).2.1 (TX2 3).2.2.1 ∈ wB) (hdg : decode cc pc = .ok (.putfield index, 3))
    (kk : ∀ (H1 : Heap) (locs1 : List Loc), FW g h A (sI σ 3 i 3 v) H1 → va_S A H0 H1 locs1 → W p l e R s m args below meth c H1 locs1 cells slots Q (F0 m (pc + 3) ls rest)) : W p l e R s m args below meth c H locs cells slots Q (F0 m pc ls (.int v :: .ref (h.2.2 3 i) :: rest)) :=
  putG C0 hK hW hS 3 i ha (ct3 i) (ci := 2) (C := RX2) (T := TX2) (N := 5) rfl inX2_B tyX2_ok nmX2 3 (by decide) hl rfl rfl rfl rfl (by simp) (sI σ 3 i 3 v) sI_off (by rw [ct3]; unfold sI; simp) hdg kk
theorem put3_4 (C0 : CallFix p m c cc nL s args wB own) (hK : KW g s) (hW : FW g h A σ H) (hS : va_S A H0 H locs) (i : Nat) (ha : al h 3 i) {v : Int32} {index : Nat} (hl : Cond.fieldLink own index RX2 (TX2 4).2.1 (TX2 4).2.2.1 ∈ wB) (hdg : decode cc pc = .ok (.putfield index, 3))
    (kk : ∀ (H1 : Heap) (locs1 : List Loc), FW g h A (sI σ 3 i 4 v) H1 → va_S A H0 H1 locs1 → W p l e R s m args below meth c H1 locs1 cells slots Q (F0 m (pc + 3) ls rest)) : W p l e R s m args below meth c H locs cells slots Q (F0 m pc ls (.int v :: .ref (h.2.2 3 i) :: rest)) :=
  putG C0 hK hW hS 3 i ha (ct3 i) (ci := 2) (C := RX2) (T := TX2) (N := 5) rfl inX2_B tyX2_ok nmX2 4 (by decide) hl rfl rfl rfl rfl (by simp) (sI σ 3 i 4 v) sI_off (by rw [ct3]; unfold sI; simp) hdg kk
theorem ct5 (i : Nat) : ct g h σ 5 i = .inr (3, [.int (σ.1 5 i 0), .int (σ.1 5 i 1), .long (σ.2 5 i 2), .int (σ.1 5 i 3), .int (σ.1 5 i 4), .int (σ.1 5 i 5), .long (σ.2 5 i 6), .int (σ.1 5 i 7)]) := rfl
theorem get5 (C0 : CallFix p m c cc nL s args wB own) (hK : KW g s) (hW : FW g h A σ H) (i : Nat) (ha : al h 5 i) (f : Nat) (hf : f < 8) {index : Nat} (hl : Cond.fieldLink own index RX3 (TX3 f).2.1 (TX3 f).2.2.1 ∈ wB) (hd : (TX3 f).1 = RX3) {v : Value} (hv : ([.int (σ.1 5 i 0), .int (σ.1 5 i 1), .long (σ.2 5 i 2), .int (σ.1 5 i 3), .int (σ.1 5 i 4), .int (σ.1 5 i 5), .long (σ.2 5 i 6), .int (σ.1 5 i 7)] : List Value)[f]? = some v) (hdg : decode cc pc = .ok (.getfield index, 3))
    (kk : W p l e R s m args below meth c H locs cells slots Q (F0 m (pc + 3) ls (v :: rest))) : W p l e R s m args below meth c H locs cells slots Q (F0 m pc ls (.ref (h.2.2 5 i) :: rest)) := getI C0 hK hW 5 i ha (ct5 i) (ci := 3) (C := RX3) (T := TX3) (N := 8) rfl inX3_B f hf hl hd hv hdg kk
theorem put5_1 (C0 : CallFix p m c cc nL s args wB own) (hK : KW g s) (hW : FW g h A σ H) (hS : va_S A H0 H locs) (i : Nat) (ha : al h 5 i) {v : Int32} {index : Nat} (hl : Cond.fieldLink own index RX3 (TX3 1).2.1 (TX3 1).2.2.1 ∈ wB) (hdg : decode cc pc = .ok (.putfield index, 3))
    (kk : ∀ (H1 : Heap) (locs1 : List Loc), FW g h A (sI σ 5 i 1 v) H1 → va_S A H0 H1 locs1 → W p l e R s m args below meth c H1 locs1 cells slots Q (F0 m (pc + 3) ls rest)) : W p l e R s m args below meth c H locs cells slots Q (F0 m pc ls (.int v :: .ref (h.2.2 5 i) :: rest)) :=
  putG C0 hK hW hS 5 i ha (ct5 i) (ci := 3) (C := RX3) (T := TX3) (N := 8) rfl inX3_B tyX3_ok nmX3 1 (by decide) hl rfl rfl rfl rfl (by simp) (sI σ 5 i 1 v) sI_off (by rw [ct5]; unfold sI; simp) hdg kk
theorem put5_2 (C0 : CallFix p m c cc nL s args wB own) (hK : KW g s) (hW : FW g h A σ H) (hS : va_S A H0 H locs) (i : Nat) (ha : al h 5 i) {v : Int64} {index : Nat} (hl : Cond.fieldLink own index RX3 (TX3 2).2.1 (TX3 2).2.2.1 ∈ wB) (hdg : decode cc pc = .ok (.putfield index, 3))
    (kk : ∀ (H1 : Heap) (locs1 : List Loc), FW g h A (sL σ 5 i 2 v) H1 → va_S A H0 H1 locs1 → W p l e R s m args below meth c H1 locs1 cells slots Q (F0 m (pc + 3) ls rest)) : W p l e R s m args below meth c H locs cells slots Q (F0 m pc ls (.long v :: .ref (h.2.2 5 i) :: rest)) :=
  putG C0 hK hW hS 5 i ha (ct5 i) (ci := 3) (C := RX3) (T := TX3) (N := 8) rfl inX3_B tyX3_ok nmX3 2 (by decide) hl rfl rfl rfl rfl (by simp) (sL σ 5 i 2 v) sL_off (by rw [ct5]; unfold sL; simp) hdg kk
theorem put5_3 (C0 : CallFix p m c cc nL s args wB own) (hK : KW g s) (hW : FW g h A σ H) (hS : va_S A H0 H locs) (i : Nat) (ha : al h 5 i) {v : Int32} {index : Nat} (hl : Cond.fieldLink own index RX3 (TX3 3).2.1 (TX3 3).2.2.1 ∈ wB) (hdg : decode cc pc = .ok (.putfield index, 3))
    (kk : ∀ (H1 : Heap) (locs1 : List Loc), FW g h A (sI σ 5 i 3 v) H1 → va_S A H0 H1 locs1 → W p l e R s m args below meth c H1 locs1 cells slots Q (F0 m (pc + 3) ls rest)) : W p l e R s m args below meth c H locs cells slots Q (F0 m pc ls (.int v :: .ref (h.2.2 5 i) :: rest)) :=
  putG C0 hK hW hS 5 i ha (ct5 i) (ci := 3) (C := RX3) (T := TX3) (N := 8) rfl inX3_B tyX3_ok nmX3 3 (by decide) hl rfl rfl rfl rfl (by simp) (sI σ 5 i 3 v) sI_off (by rw [ct5]; unfold sI; simp) hdg kk
theorem put5_4 (C0 : CallFix p m c cc nL s args wB own) (hK : KW g s) (hW : FW g h A σ H) (hS : va_S A H0 H locs) (i : Nat) (ha : al h 5 i) {v : Int32} (hz : v = 0 ∨ v = 1) {index : Nat} (hl : Cond.fieldLink own index RX3 (TX3 4).2.1 (TX3 4).2.2.1 ∈ wB) (hdg : decode cc pc = .ok (.putfield index, 3))
    (kk : ∀ (H1 : Heap) (locs1 : List Loc), FW g h A (sI σ 5 i 4 v) H1 → va_S A H0 H1 locs1 → W p l e R s m args below meth c H1 locs1 cells slots Q (F0 m (pc + 3) ls rest)) : W p l e R s m args below meth c H locs cells slots Q (F0 m pc ls (.int v :: .ref (h.2.2 5 i) :: rest)) :=
  putG C0 hK hW hS 5 i ha (ct5 i) (ci := 3) (C := RX3) (T := TX3) (N := 8) rfl inX3_B tyX3_ok nmX3 4 (by decide) hl rfl rfl (by rcases hz with rfl | rfl <;> rfl) (by rcases hz with rfl | rfl <;> rfl) (by simp) (sI σ 5 i 4 v) sI_off (by rw [ct5]; unfold sI; simp) hdg kk
theorem put5_5 (C0 : CallFix p m c cc nL s args wB own) (hK : KW g s) (hW : FW g h A σ H) (hS : va_S A H0 H locs) (i : Nat) (ha : al h 5 i) {v : Int32} {index : Nat} (hl : Cond.fieldLink own index RX3 (TX3 5).2.1 (TX3 5).2.2.1 ∈ wB) (hdg : decode cc pc = .ok (.putfield index, 3))
    (kk : ∀ (H1 : Heap) (locs1 : List Loc), FW g h A (sI σ 5 i 5 v) H1 → va_S A H0 H1 locs1 → W p l e R s m args below meth c H1 locs1 cells slots Q (F0 m (pc + 3) ls rest)) : W p l e R s m args below meth c H locs cells slots Q (F0 m pc ls (.int v :: .ref (h.2.2 5 i) :: rest)) :=
  putG C0 hK hW hS 5 i ha (ct5 i) (ci := 3) (C := RX3) (T := TX3) (N := 8) rfl inX3_B tyX3_ok nmX3 5 (by decide) hl rfl rfl rfl rfl (by simp) (sI σ 5 i 5 v) sI_off (by rw [ct5]; unfold sI; simp) hdg kk
theorem put5_6 (C0 : CallFix p m c cc nL s args wB own) (hK : KW g s) (hW : FW g h A σ H) (hS : va_S A H0 H locs) (i : Nat) (ha : al h 5 i) {v : Int64} {index : Nat} (hl : Cond.fieldLink own index RX3 (TX3 6).2.1 (TX3 6).2.2.1 ∈ wB) (hdg : decode cc pc = .ok (.putfield index, 3))
    (kk : ∀ (H1 : Heap) (locs1 : List Loc), FW g h A (sL σ 5 i 6 v) H1 → va_S A H0 H1 locs1 → W p l e R s m args below meth c H1 locs1 cells slots Q (F0 m (pc + 3) ls rest)) : W p l e R s m args below meth c H locs cells slots Q (F0 m pc ls (.long v :: .ref (h.2.2 5 i) :: rest)) :=
  putG C0 hK hW hS 5 i ha (ct5 i) (ci := 3) (C := RX3) (T := TX3) (N := 8) rfl inX3_B tyX3_ok nmX3 6 (by decide) hl rfl rfl rfl rfl (by simp) (sL σ 5 i 6 v) sL_off (by rw [ct5]; unfold sL; simp) hdg kk
theorem put5_7 (C0 : CallFix p m c cc nL s args wB own) (hK : KW g s) (hW : FW g h A σ H) (hS : va_S A H0 H locs) (i : Nat) (ha : al h 5 i) {v : Int32} {index : Nat} (hl : Cond.fieldLink own index RX3 (TX3 7).2.1 (TX3 7).2.2.1 ∈ wB) (hdg : decode cc pc = .ok (.putfield index, 3))
    (kk : ∀ (H1 : Heap) (locs1 : List Loc), FW g h A (sI σ 5 i 7 v) H1 → va_S A H0 H1 locs1 → W p l e R s m args below meth c H1 locs1 cells slots Q (F0 m (pc + 3) ls rest)) : W p l e R s m args below meth c H locs cells slots Q (F0 m pc ls (.int v :: .ref (h.2.2 5 i) :: rest)) :=
  putG C0 hK hW hS 5 i ha (ct5 i) (ci := 3) (C := RX3) (T := TX3) (N := 8) rfl inX3_B tyX3_ok nmX3 7 (by decide) hl rfl rfl rfl rfl (by simp) (sI σ 5 i 7 v) sI_off (by rw [ct5]; unfold sI; simp) hdg kk
theorem ct6 (i : Nat) : ct g h σ 6 i = .inr (0, [.int (σ.1 6 i 0), .int (σ.1 6 i 1), .int (σ.1 6 i 2), .int (σ.1 6 i 3), .int (σ.1 6 i 4), .ref (h.2.2 7 i), .ref (h.2.2 8 i), .ref (h.2.2 9 i), .int (σ.1 6 i 8), .int (σ.1 6 i 9), .long (σ.2 6 i 10), .long (σ.2 6 i 11), .int (σ.1 6 i 12), .long (σ.2 6 i 13), .int (σ.1 6 i 14)]) := rfl
theorem get6 (C0 : CallFix p m c cc nL s args wB own) (hK : KW g s) (hW : FW g h A σ H) (i : Nat) (ha : al h 6 i) (f : Nat) (hf : f < 15) {index : Nat} (hl : Cond.fieldLink own index RX0 (TX0 f).2.1 (TX0 f).2.2.1 ∈ wB) (hd : (TX0 f).1 = RX0) {v : Value} (hv : ([.int (σ.1 6 i 0), .int (σ.1 6 i 1), .int (σ.1 6 i 2), .int (σ.1 6 i 3), .int (σ.1 6 i 4), .ref (h.2.2 7 i), .ref (h.2.2 8 i), .ref (h.2.2 9 i), .int (σ.1 6 i 8), .int (σ.1 6 i 9), .long (σ.2 6 i 10), .long (σ.2 6 i 11), .int (σ.1 6 i 12), .long (σ.2 6 i 13), .int (σ.1 6 i 14)] : List Value)[f]? = some v) (hdg : decode cc pc = .ok (.getfield index, 3))
    (kk : W p l e R s m args below meth c H locs cells slots Q (F0 m (pc + 3) ls (v :: rest))) : W p l e R s m args below meth c H locs cells slots Q (F0 m pc ls (.ref (h.2.2 6 i) :: rest)) := getI C0 hK hW 6 i ha (ct6 i) (ci := 0) (C := RX0) (T := TX0) (N := 15) rfl inX0_B f hf hl hd hv hdg kk
theorem put6_8 (C0 : CallFix p m c cc nL s args wB own) (hK : KW g s) (hW : FW g h A σ H) (hS : va_S A H0 H locs) (i : Nat) (ha : al h 6 i) {v : Int32} {index : Nat} (hl : Cond.fieldLink own index RX0 (TX0 8).2.1 (TX0 8).2.2.1 ∈ wB) (hdg : decode cc pc = .ok (.putfield index, 3))
    (kk : ∀ (H1 : Heap) (locs1 : List Loc), FW g h A (sI σ 6 i 8 v) H1 → va_S A H0 H1 locs1 → W p l e R s m args below meth c H1 locs1 cells slots Q (F0 m (pc + 3) ls rest)) : W p l e R s m args below meth c H locs cells slots Q (F0 m pc ls (.int v :: .ref (h.2.2 6 i) :: rest)) :=
  putG C0 hK hW hS 6 i ha (ct6 i) (ci := 0) (C := RX0) (T := TX0) (N := 15) rfl inX0_B tyX0_ok nmX0 8 (by decide) hl rfl rfl rfl rfl (by simp) (sI σ 6 i 8 v) sI_off (by rw [ct6]; unfold sI; simp) hdg kk
theorem put6_9 (C0 : CallFix p m c cc nL s args wB own) (hK : KW g s) (hW : FW g h A σ H) (hS : va_S A H0 H locs) (i : Nat) (ha : al h 6 i) {v : Int32} (hz : v = 0 ∨ v = 1) {index : Nat} (hl : Cond.fieldLink own index RX0 (TX0 9).2.1 (TX0 9).2.2.1 ∈ wB) (hdg : decode cc pc = .ok (.putfield index, 3))
    (kk : ∀ (H1 : Heap) (locs1 : List Loc), FW g h A (sI σ 6 i 9 v) H1 → va_S A H0 H1 locs1 → W p l e R s m args below meth c H1 locs1 cells slots Q (F0 m (pc + 3) ls rest)) : W p l e R s m args below meth c H locs cells slots Q (F0 m pc ls (.int v :: .ref (h.2.2 6 i) :: rest)) :=
  putG C0 hK hW hS 6 i ha (ct6 i) (ci := 0) (C := RX0) (T := TX0) (N := 15) rfl inX0_B tyX0_ok nmX0 9 (by decide) hl rfl rfl (by rcases hz with rfl | rfl <;> rfl) (by rcases hz with rfl | rfl <;> rfl) (by simp) (sI σ 6 i 9 v) sI_off (by rw [ct6]; unfold sI; simp) hdg kk
theorem put6_10 (C0 : CallFix p m c cc nL s args wB own) (hK : KW g s) (hW : FW g h A σ H) (hS : va_S A H0 H locs) (i : Nat) (ha : al h 6 i) {v : Int64} {index : Nat} (hl : Cond.fieldLink own index RX0 (TX0 10).2.1 (TX0 10).2.2.1 ∈ wB) (hdg : decode cc pc = .ok (.putfield index, 3))
    (kk : ∀ (H1 : Heap) (locs1 : List Loc), FW g h A (sL σ 6 i 10 v) H1 → va_S A H0 H1 locs1 → W p l e R s m args below meth c H1 locs1 cells slots Q (F0 m (pc + 3) ls rest)) : W p l e R s m args below meth c H locs cells slots Q (F0 m pc ls (.long v :: .ref (h.2.2 6 i) :: rest)) :=
  putG C0 hK hW hS 6 i ha (ct6 i) (ci := 0) (C := RX0) (T := TX0) (N := 15) rfl inX0_B tyX0_ok nmX0 10 (by decide) hl rfl rfl rfl rfl (by simp) (sL σ 6 i 10 v) sL_off (by rw [ct6]; unfold sL; simp) hdg kk
theorem put6_11 (C0 : CallFix p m c cc nL s args wB own) (hK : KW g s) (hW : FW g h A σ H) (hS : va_S A H0 H locs) (i : Nat) (ha : al h 6 i) {v : Int64} {index : Nat} (hl : Cond.fieldLink own index RX0 (TX0 11).2.1 (TX0 11).2.2.1 ∈ wB) (hdg : decode cc pc = .ok (.putfield index, 3))
    (kk : ∀ (H1 : Heap) (locs1 : List Loc), FW g h A (sL σ 6 i 11 v) H1 → va_S A H0 H1 locs1 → W p l e R s m args below meth c H1 locs1 cells slots Q (F0 m (pc + 3) ls rest)) : W p l e R s m args below meth c H locs cells slots Q (F0 m pc ls (.long v :: .ref (h.2.2 6 i) :: rest)) :=
  putG C0 hK hW hS 6 i ha (ct6 i) (ci := 0) (C := RX0) (T := TX0) (N := 15) rfl inX0_B tyX0_ok nmX0 11 (by decide) hl rfl rfl rfl rfl (by simp) (sL σ 6 i 11 v) sL_off (by rw [ct6]; unfold sL; simp) hdg kk
theorem put6_12 (C0 : CallFix p m c cc nL s args wB own) (hK : KW g s) (hW : FW g h A σ H) (hS : va_S A H0 H locs) (i : Nat) (ha : al h 6 i) {v : Int32} {index : Nat} (hl : Cond.fieldLink own index RX0 (TX0 12).2.1 (TX0 12).2.2.1 ∈ wB) (hdg : decode cc pc = .ok (.putfield index, 3))
    (kk : ∀ (H1 : Heap) (locs1 : List Loc), FW g h A (sI σ 6 i 12 v) H1 → va_S A H0 H1 locs1 → W p l e R s m args below meth c H1 locs1 cells slots Q (F0 m (pc + 3) ls rest)) : W p l e R s m args below meth c H locs cells slots Q (F0 m pc ls (.int v :: .ref (h.2.2 6 i) :: rest)) :=
  putG C0 hK hW hS 6 i ha (ct6 i) (ci := 0) (C := RX0) (T := TX0) (N := 15) rfl inX0_B tyX0_ok nmX0 12 (by decide) hl rfl rfl rfl rfl (by simp) (sI σ 6 i 12 v) sI_off (by rw [ct6]; unfold sI; simp) hdg kk
theorem put6_13 (C0 : CallFix p m c cc nL s args wB own) (hK : KW g s) (hW : FW g h A σ H) (hS : va_S A H0 H locs) (i : Nat) (ha : al h 6 i) {v : Int64} {index : Nat} (hl : Cond.fieldLink own index RX0 (TX0 13).2.1 (TX0 13).2.2.1 ∈ wB) (hdg : decode cc pc = .ok (.putfield index, 3))
    (kk : ∀ (H1 : Heap) (locs1 : List Loc), FW g h A (sL σ 6 i 13 v) H1 → va_S A H0 H1 locs1 → W p l e R s m args below meth c H1 locs1 cells slots Q (F0 m (pc + 3) ls rest)) : W p l e R s m args below meth c H locs cells slots Q (F0 m pc ls (.long v :: .ref (h.2.2 6 i) :: rest)) :=
  putG C0 hK hW hS 6 i ha (ct6 i) (ci := 0) (C := RX0) (T := TX0) (N := 15) rfl inX0_B tyX0_ok nmX0 13 (by decide) hl rfl rfl rfl rfl (by simp) (sL σ 6 i 13 v) sL_off (by rw [ct6]; unfold sL; simp) hdg kk
theorem put6_14 (C0 : CallFix p m c cc nL s args wB own) (hK : KW g s) (hW : FW g h A σ H) (hS : va_S A H0 H locs) (i : Nat) (ha : al h 6 i) {v : Int32} {index : Nat} (hl : Cond.fieldLink own index RX0 (TX0 14).2.1 (TX0 14).2.2.1 ∈ wB) (hdg : decode cc pc = .ok (.putfield index, 3))
    (kk : ∀ (H1 : Heap) (locs1 : List Loc), FW g h A (sI σ 6 i 14 v) H1 → va_S A H0 H1 locs1 → W p l e R s m args below meth c H1 locs1 cells slots Q (F0 m (pc + 3) ls rest)) : W p l e R s m args below meth c H locs cells slots Q (F0 m pc ls (.int v :: .ref (h.2.2 6 i) :: rest)) :=
  putG C0 hK hW hS 6 i ha (ct6 i) (ci := 0) (C := RX0) (T := TX0) (N := 15) rfl inX0_B tyX0_ok nmX0 14 (by decide) hl rfl rfl rfl rfl (by simp) (sI σ 6 i 14 v) sI_off (by rw [ct6]; unfold sI; simp) hdg kk
theorem ct10 (i : Nat) : ct g h σ 10 i = .inr (1, [.ref (h.2.2 11 i), .ref (h.2.2 12 i), .int (σ.1 10 i 2)]) := rfl
theorem get10 (C0 : CallFix p m c cc nL s args wB own) (hK : KW g s) (hW : FW g h A σ H) (i : Nat) (ha : al h 10 i) (f : Nat) (hf : f < 3) {index : Nat} (hl : Cond.fieldLink own index RX1 (TX1 f).2.1 (TX1 f).2.2.1 ∈ wB) (hd : (TX1 f).1 = RX1) {v : Value} (hv : ([.ref (h.2.2 11 i), .ref (h.2.2 12 i), .int (σ.1 10 i 2)] : List Value)[f]? = some v) (hdg : decode cc pc = .ok (.getfield index, 3))
    (kk : W p l e R s m args below meth c H locs cells slots Q (F0 m (pc + 3) ls (v :: rest))) : W p l e R s m args below meth c H locs cells slots Q (F0 m pc ls (.ref (h.2.2 10 i) :: rest)) := getI C0 hK hW 10 i ha (ct10 i) (ci := 1) (C := RX1) (T := TX1) (N := 3) rfl inX1_B f hf hl hd hv hdg kk
theorem put10_2 (C0 : CallFix p m c cc nL s args wB own) (hK : KW g s) (hW : FW g h A σ H) (hS : va_S A H0 H locs) (i : Nat) (ha : al h 10 i) {v : Int32} {index : Nat} (hl : Cond.fieldLink own index RX1 (TX1 2).2.1 (TX1 2).2.2.1 ∈ wB) (hdg : decode cc pc = .ok (.putfield index, 3))
    (kk : ∀ (H1 : Heap) (locs1 : List Loc), FW g h A (sI σ 10 i 2 v) H1 → va_S A H0 H1 locs1 → W p l e R s m args below meth c H1 locs1 cells slots Q (F0 m (pc + 3) ls rest)) : W p l e R s m args below meth c H locs cells slots Q (F0 m pc ls (.int v :: .ref (h.2.2 10 i) :: rest)) :=
  putG C0 hK hW hS 10 i ha (ct10 i) (ci := 1) (C := RX1) (T := TX1) (N := 3) rfl inX1_B tyX1_ok nmX1 2 (by decide) hl rfl rfl rfl rfl (by simp) (sI σ 10 i 2 v) sI_off (by rw [ct10]; unfold sI; simp) hdg kk
end RW
