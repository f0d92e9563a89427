/-! THE LAW'S SMALL METHODS -/
abbrev Er (f : Nat → Option Nat) (n : Nat) (cA : ClassId) : va_E := .inl (cA, n, .inr (.inr (.inr (.inr f))))
theorem inl_n {c c' : ClassId} {x x' : vp_A} (h : (some (.inl (c, x)) : Option va_E) = some (.inl (c', x'))) : x.1 = x'.1 := congrArg (fun z => z.2.1) (Sum.inl.inj (Option.some.inj h))
theorem inl_x {c c' : ClassId} {x x' : vp_A} (h : (some (.inl (c, x)) : Option va_E) = some (.inl (c', x'))) : x = x' := congrArg (fun z => z.2) (Sum.inl.inj (Option.some.inj h))
theorem inl_c {c c' : ClassId} {x x' : vp_A} (h : (some (.inl (c, x)) : Option va_E) = some (.inl (c', x'))) : c = c' := congrArg (fun z => z.1) (Sum.inl.inj (Option.some.inj h))
theorem xU_tw (X : Nat → Option va_E) (q : Nat) (e e' : va_E) : xU (xU X q e) q e' = xU X q e' := by
  funext a
  unfold xU
  split <;> rfl
/-- the cells keep what they held, but at new addresses -/
def xLe (X X' : Nat → Option va_E) : Prop := ∀ a e, X a = some e → X' a = some e
theorem xLe.rf {X : Nat → Option va_E} : xLe X X := fun _ _ h => h
theorem xLe.tr {X Y Z : Nat → Option va_E} (h : xLe X Y) (h2 : xLe Y Z) : xLe X Z := fun a e ha => h2 a e (h a e ha)
theorem xLe.nw {X : Nat → Option va_E} {q : Nat} {e : va_E} (h : X q = none) : xLe X (xU X q e) := fun a e' ha => by
  by_cases hq : a = q
  · subst hq
    rw [h] at ha
    cases ha
  · rw [xU_ne hq]; exact ha
theorem ac_of {t : FieldType} {args : Array Value} {s : State} (h : va_AOA t s) : (Cond.arrayClass (.array t)).before args s = true := by
  obtain ⟨comp, c, k, h1, h2, h3, h4, h5⟩ := arrayOverA_spec (va_AOA.use (A := #[]) h)
  unfold Cond.before Cond.holds
  simp only [Cond.value]
  rw [h5, Option.bind_some]
  simp [h3, h4]
section HLP
variable {p : Program} {l : Launch} {e : Env} {R : Room} {s : State} {m : MethodId} {args : Array Value} {below : List Frame} {meth : Method} {c : Code} {H : Heap} {locs : List Loc} {cells slots : Nat} {Q : State → Prop}
variable {cc : ByteArray} {pc nL lo : Nat} {ls : Array Slot} {g : Gx} {h : Sh} {σ : Sg} {X : Nat → Option va_E}
theorem wi_loop {a r q n : Nat} {F : Nat → Option Nat} (C0 : CallFix p m c cX5_with 4 s args wB RX5) (hK : KW g s) (hq : X q = none) (ha : X a = some (Er F n (g.2.2.2.1 0))) (hF : ∀ j, j < n → ∃ v z, F j = some v ∧ X v = some (.inl (g.2.1.1, z))) (hn : n < 100) :
    ∀ (k i : Nat) (H : Heap) (locs : List Loc) (ls : Array Slot), i + k = n → FW (gX g (xU X q (Er (fun j => if j < i then F j else none) (n + 1) (g.2.2.2.1 0)))) h (Ax lo) σ H → va_S (Ax lo) s.heap H locs → lv_has ls 4 [(0, .ref a), (1, .ref r), (2, .ref q), (3, .int (nI i))] →
      (∀ (H : Heap) (locs : List Loc) (ls : Array Slot), FW (gX g (xU X q (Er (fun j => if j < n then F j else none) (n + 1) (g.2.2.2.1 0)))) h (Ax lo) σ H → va_S (Ax lo) s.heap H locs → lv_has ls 4 [(0, .ref a), (1, .ref r), (2, .ref q)] → W p l e R s m args below meth c H locs cells slots Q (F0 m 28 ls [])) → W p l e R s m args below meth c H locs cells slots Q (F0 m 10 ls []) := by
  have hx := C0.1
  have hb := C0.2.1
  intro k
  induction k with
  | zero =>
    intro i H locs ls hi hW hS hl kk
    have hin : i = n := by omega
    subst hin
    have haq : a ≠ q := fun z => by rw [z, hq] at ha; cases ha
    have ha' : xU X q (Er (fun j => if j < i then F j else none) (i + 1) (g.2.2.2.1 0)) a = some (Er F i (g.2.2.2.1 0)) := (xU_ne haq).trans ha
    refine lv_iload_n hx hb dX5_with_10 rfl (lv_at hl 3 rfl) ?_
    refine lv_aload_n hx hb dX5_with_11 rfl (lv_at hl 0 rfl) ?_
    refine xln (v := nI i) C0 hK hW 6 ha' rfl rfl dX5_with_12 ?_
    refine lv_icmp_ge (tgt := 28) hx hb dX5_with_13 (by decide) (fun _ => ?_) (fun c9 => absurd (nI_le (Nat.le_refl i) (by omega)) c9)
    exact kk _ _ _ hW hS (lv_sub hl [0, 1, 2] rfl)
  | succ k ih =>
    intro i H locs ls hi hW hS hl kk
    have haq : a ≠ q := fun z => by rw [z, hq] at ha; cases ha
    have ha' : xU X q (Er (fun j => if j < i then F j else none) (n + 1) (g.2.2.2.1 0)) a = some (Er F n (g.2.2.2.1 0)) := (xU_ne haq).trans ha
    obtain ⟨v, z, hv, hXv⟩ := hF i (by omega)
    have hvq : v ≠ q := fun z => by rw [z, hq] at hXv; cases hXv
    have hv' : xU X q (Er (fun j => if j < i then F j else none) (n + 1) (g.2.2.2.1 0)) v = some (.inl (g.2.1.1, z)) := (xU_ne hvq).trans hXv
    refine lv_iload_n hx hb dX5_with_10 rfl (lv_at hl 3 rfl) ?_
    refine lv_aload_n hx hb dX5_with_11 rfl (lv_at hl 0 rfl) ?_
    refine xln (v := nI n) C0 hK hW 6 ha' rfl rfl dX5_with_12 ?_
    refine lv_icmp_ge (tgt := 28) hx hb dX5_with_13 (by decide) (fun c9 => absurd c9 (nI_ge (by omega) (by omega))) (fun _ => ?_)
    refine lv_aload_n hx hb dX5_with_16 rfl (lv_at hl 2 rfl) ?_
    refine lv_iload_n hx hb dX5_with_17 rfl (lv_at hl 3 rfl) ?_
    refine lv_aload_n hx hb dX5_with_18 rfl (lv_at hl 0 rfl) ?_
    refine lv_iload_n hx hb dX5_with_19 rfl (lv_at hl 3 rfl) ?_
    refine xrl C0 hK hW 6 ha' rfl rfl (nI_in (by omega) (by omega)) dX5_with_20 ?_
    rw [nI_clamp (by omega), hv]
    refine xrsA C0 hK hW hS 6 0 (xU_self _ _ _) hv' rfl rfl rfl (fun C h => by cases h) hK.2.2.2.2.2.2.1 (nI_in (by omega) (by omega)) dX5_with_21 (fun H locs hW hS => ?_)
    rw [xU_tw, nI_clamp (by omega), show va_up (fun j => if j < i then F j else none) i (some v) = (fun j => if j < i + 1 then F j else none) from funext fun j => by
      by_cases hj : j = i
      · subst hj
        rw [va_up_self, if_pos (by omega), hv]
      · rw [va_up_ne _ _ hj]
        by_cases h2 : j < i
        · rw [if_pos h2, if_pos (by omega)]
        · rw [if_neg h2, if_neg (by omega)]] at hW
    refine lv_iinc (v := nI (i + 1)) (lv' := [(3, .int (nI (i + 1))), (0, .ref a), (1, .ref r), (2, .ref q)]) hx hb dX5_with_22 hl (k := 3) rfl (nI_1 i) (by decide) rfl (fun ls hl => ?_)
    refine lv_goto (tgt := 10) hx hb dX5_with_25 (by decide) ?_
    exact ih (i + 1) H locs ls (by omega) hW hS (lv_sub hl [1, 2, 3, 0] rfl) kk
end HLP
set_option maxHeartbeats 4000000 in
theorem kX5_with (l : Launch) (lo : Nat) (g : Gx) (h : Sh) (σ : Sg) (X : Nat → Option va_E) (a r n mr : Nat) (F : Nat → Option Nat) (Fr : Nat → Int32) (ha : X a = some (Er F n (g.2.2.2.1 0))) (hr9 : X r = some (.inl (g.2.1.1, mr, .inl Fr))) (hF : ∀ j, j < n → ∃ v z, F j = some v ∧ X v = some (.inl (g.2.1.1, z))) (hn : n < 100) : Met l yX5_with (ws_ yX5_with cX5_with 4 (some (.array (.array .int)))) { frames := 0, cells := 1, slots := n + 1, locals := 0 } (va_Pc [.ref a, .ref r] (WD lo (gX g X) h σ)) (va_Qq (fun (r' : Option Nat) (q : Nat) => r' = some q ∧ X q = none) (fun q t => FW (gX g (xU X q (Er (fun j => if j < n then F j else if j = n then some r else none) (n + 1) (g.2.2.2.1 0)))) h (Ax lo) σ t.heap) (Ax lo)) 1 (n + 1) (Ax lo) := by
  refine ofB (own := RX5) (by decide +kernel) rfl (fun p e s m below meth c C0 hr hlk hlo hK0 hZ hW hS ls hl => ?_) (Nat.le_of_ble_eq_true rfl)
  have hK : KW g s := hK0
  have hx := C0.1
  have hb := C0.2.1
  have hA : ∀ q : Nat, s.heap.size ≤ q → Ax lo q := fun q hq => Nat.le_trans hlo hq
  have hl : lv_has ls 4 [(0, .ref a), (1, .ref r)] := hl
  refine lv_aload_n hx hb dX5_with_0 rfl (lv_at hl 0 rfl) ?_
  refine xln (v := nI n) C0 hK hW 6 ha rfl rfl dX5_with_1 ?_
  refine lv_iconst (v := 1) hx hb dX5_with_2 (by decide) ?_
  refine lv_iadd hx hb dX5_with_3 ?_
  rw [nI_1]
  refine xna (N := n + 1) C0 hK hW hS hA wCL_X5_13 (nI_pos (by omega)) (nI_clamp (by omega)) (by omega) (by show 0 + 1 ≤ 1; omega) (by show 0 + (n + 1) ≤ n + 1; omega) dX5_with_4 (fun q H hq hW hS => ?_)
  refine lv_astore_n (lv' := [(2, .ref q), (0, .ref a), (1, .ref r)]) hx hb dX5_with_7 rfl hl (by decide) rfl (fun ls hl => ?_)
  refine lv_iconst (v := 0) hx hb dX5_with_8 (by decide) ?_
  refine lv_istore_n (lv' := [(3, .int 0), (2, .ref q), (0, .ref a), (1, .ref r)]) hx hb dX5_with_9 rfl hl (by decide) rfl (fun ls hl => ?_)
  refine wi_loop (r := r) C0 hK hq ha hF hn n 0 H _ ls (by omega) (by simpa using hW) hS (lv_sub hl [2, 3, 1, 0] rfl) (fun H locs ls hW hS hl => ?_)
  have haq : a ≠ q := fun z => by rw [z, hq] at ha; cases ha
  have hrq : r ≠ q := fun z => by rw [z, hq] at hr9; cases hr9
  refine lv_aload_n hx hb dX5_with_28 rfl (lv_at hl 2 rfl) ?_
  refine lv_aload_n hx hb dX5_with_29 rfl (lv_at hl 0 rfl) ?_
  refine xln (v := nI n) C0 hK hW 6 ((xU_ne haq).trans ha) rfl rfl dX5_with_30 ?_
  refine lv_aload_n hx hb dX5_with_31 rfl (lv_at hl 1 rfl) ?_
  refine xrsA C0 hK hW hS 6 0 (xU_self _ _ _) ((xU_ne hrq).trans hr9) rfl rfl rfl (fun C h => by cases h) hK.2.2.2.2.2.2.1 (nI_in (by omega) (by omega)) dX5_with_32 (fun H locs hW hS => ?_)
  rw [xU_tw, nI_clamp (by omega), show va_up (fun j => if j < n then F j else none) n (some r) = (fun j => if j < n then F j else if j = n then some r else none) from funext fun j => by
      by_cases hj : j = n
      · subst hj
        rw [va_up_self, if_neg (by omega), if_pos rfl]
      · rw [va_up_ne _ _ hj]
        by_cases h2 : j < n
        · rw [if_pos h2, if_pos h2]
        · rw [if_neg h2, if_neg h2, if_neg hj]] at hW
  refine lv_aload_n hx hb dX5_with_33 rfl (lv_at hl 2 rfl) ?_
  refine W.widen (k := 1) (n := n + 1) (by omega) (by omega) ?_
  exact W.aret hx hb hr (Or.inr ⟨_, rfl⟩) (va_rf_or (some q)) (fun t ht hw => ⟨⟨some q, q, rfl, ⟨rfl, hq⟩, by subst ht; exact hW⟩, hS.F ht⟩) hS.2.2 dX5_with_34 hlk
/-- the script beside the world -/
def WS (lo : Nat) (g : Gx) (h : Sh) (σ : Sg) (b L : Nat) (xs : Nat → Int32) (U : State) : Prop := WD lo g h σ U ∧ va_X b L xs U U.heap
theorem WS.blind {lo : Nat} {g : Gx} {h : Sh} {σ : Sg} {b L : Nat} {xs : Nat → Int32} {args : List Value} : FrameBlind (va_Pc args (WS lo g h σ b L xs)) := fun _ U _ _ q => ⟨q.1, ⟨q.2.1.1, q.2.1.2.1, q.2.1.2.2.1.call, trivial⟩, va_X.moved (u := U) (Vm.Alike.refl U.vm) q.2.2⟩
theorem WS.at {lo : Nat} {g : Gx} {h : Sh} {σ : Sg} {s : State} {H : Heap} {locs : List Loc} {b L : Nat} {xs : Nat → Int32} (hlo : lo ≤ s.heap.size) (hK : KW g s) (hW : FW g h (Ax lo) σ H) (hS : va_S (Ax lo) s.heap H locs) (hX : va_X b L xs s s.heap) (hb : b < lo) : ∀ U : State, U.heap = H → s.WarmedH U.vm → WS lo g h σ b L xs U :=
  fun U hU hw => ⟨WD.at hlo hK trivial hW hS U hU hw, (va_X.moved hw.alike hX).kept (by rw [hU]; exact hS.2.1 b (Nat.lt_of_lt_of_le hb hlo) (fun z => absurd (show lo ≤ b from z) (by omega)))⟩
theorem ofBS {l : Launch} {cc : ByteArray} {maxL lo mc ms fr lw b L : Nat} {xs : Nat → Int32} {own : String} {g : Gx} {h : Sh} {σ : Sg} {y : MethodName} {ret : Option FieldType} {Qc : Array Value → State → Outcome → State → Prop} {av : List Value} (hy : plainName y.cls = true) (hyo : y.cls = own)
    (body : ∀ (p : Program) (e : Env) (s : State) (m : MethodId) (below : List Frame) (meth : Method) (c : Code), CallFix p m c cc maxL s av.toArray wB own → meth.sig.returnType = ret → meth.locks = false → lo ≤ s.heap.size → KW g s → va_X b L xs s s.heap → FW g h (Ax lo) σ s.heap → va_S (Ax lo) s.heap s.heap [] → ∀ ls : Array Slot, lv_has ls maxL (lv_args 0 av) →
      W p l e { frames := fr, cells := mc, slots := ms, locals := lw } s m av.toArray below meth c s.heap [] 0 0 (MQ below Qc av.toArray s mc ms (Ax lo)) (F0 m 0 ls [])) (hlen : (lg_sl av).length ≤ maxL) :
    Met l y (ws_ y cc maxL ret) { frames := fr, cells := mc, slots := ms, locals := lw } (va_Pc av (WS lo g h σ b L xs)) Qc mc ms (Ax lo) := by
  refine Met.ofW (cc := cc) (maxL := maxL) (ret := ret) hy rfl ?_
  intro p e s m args below meth c s₁ B hml hv
  obtain ⟨rfl, ⟨hlo, hW, hK, hZ⟩, hX⟩ := hv
  have hts := atoms_spec (ws := ws_ y cc maxL ret) B.pre
  have hown : s.vm.findClass own = some m.cls := hyo ▸ findClass_of_methodNamed B.named
  rw [lg_entry_eq]
  exact body p e s m below meth c ⟨B.exec, B.bytes, hml, hown, fun w hw => hts w (List.mem_cons_of_mem _ hw)⟩ B.returns B.notSynchronized hlo hK hX hW va_S.rf _ (lv_entry av hlen)
theorem va_X.lt {b L : Nat} {xs : Nat → Int32} {U : State} {H : Heap} (h : va_X b L xs U H) : b < H.size := by
  obtain ⟨scr, h1, -⟩ := h
  exact (Array.getElem?_eq_some_iff.mp h1).1
set_option maxHeartbeats 4000000 in
theorem kL_cell (l : Launch) (lo : Nat) (g : Gx) (h : Sh) (σ : Sg) (b L : Nat) (xs : Nat → Int32) (k : Nat) (hb9 : b < lo) (hL : L ≤ 260) (hk : k < 1000) : Met l yL_cell (ws_ yL_cell cL_cell 2 (some .int)) { frames := 0, cells := 0, slots := 0, locals := 0 } (va_Pc [.ref b, .int (nI k)] (WS lo g h σ b L xs)) (va_Qi (fun (_ : Int32) (_ : Unit) => True) (fun _ t => FW g h (Ax lo) σ t.heap) (Ax lo)) 0 0 (Ax lo) := by
  refine ofBS (own := RL) (by decide +kernel) rfl (fun p e s m below meth c C0 hr hlk hlo hK hX hW hS ls hl => ?_) (Nat.le_of_ble_eq_true rfl)
  have hx := C0.1
  have hb := C0.2.1
  have hbA : ¬ Ax lo b := fun z => absurd (show lo ≤ b from z) (by omega)
  have hl : lv_has ls 2 [(0, .ref b), (1, .int (nI k))] := hl
  have fin : ∀ r : Int32, W p l e { frames := 0, cells := 0, slots := 0, locals := 0 } s m ([.ref b, .int (nI k)] : List Value).toArray below meth c s.heap [] 0 0 (MQ below (va_Qi (fun (_ : Int32) (_ : Unit) => True) (fun _ t => FW g h (Ax lo) σ t.heap) (Ax lo)) ([.ref b, .int (nI k)] : List Value).toArray s 0 0 (Ax lo)) (F0 m 18 ls [.int r]) := fun r => W.iret hx hb hr (fun t ht hw => ⟨⟨r, (), rfl, trivial, by show FW g h (Ax lo) σ t.heap; rw [ht]; exact hW⟩, hS.F ht⟩) hS.2.2 dL_cell_18 hlk
  refine lv_iload_n hx hb dL_cell_0 rfl (lv_at hl 1 rfl) ?_
  refine lv_aload_n hx hb dL_cell_1 rfl (lv_at hl 0 rfl) ?_
  refine va_slen hx hb hX hX.lt hbA hS dL_cell_2 ?_
  refine lv_icmp_ge (tgt := 12) hx hb dL_cell_3 (by decide) (fun c9 => ?_) (fun c9 => ?_)
  · refine lv_ldc hx hb C0.2.2.2.1 (C0.2.2.2.2 _ wconstant_L_8) dL_cell_12 ?_
    refine lv_iload_n hx hb dL_cell_14 rfl (lv_at hl 1 rfl) ?_
    refine lv_iconst (v := 3) hx hb dL_cell_15 (by decide) ?_
    refine lv_iadd hx hb dL_cell_16 ?_
    refine lv_imul hx hb dL_cell_17 ?_
    exact fin _
  · have hkL : k < L := Nat.not_le.mp fun z => c9 (show nI L ≤ nI k from nI_le z (by omega))
    refine lv_aload_n hx hb dL_cell_6 rfl (lv_at hl 0 rfl) ?_
    refine lv_iload_n hx hb dL_cell_7 rfl (lv_at hl 1 rfl) ?_
    refine va_sld hx hb hX hX.lt hbA hS (nI_in hkL (by omega)) dL_cell_8 ?_
    refine lv_goto (tgt := 18) hx hb dL_cell_9 (by decide) ?_
    exact fin _

/-- what a new parlour of the law's holds -/
def simE (a1 a2 a3 a4 : Nat) : va_E := .inr (6, [.int 0, .ref a1, .ref a2, .ref a3, .ref a4, .int 0])
set_option maxHeartbeats 8000000 in
theorem kX6_init (l : Launch) (lo : Nat) (g : Gx) (h : Sh) (σ : Sg) (X : Nat → Option va_E) (q : Nat) (hq : X q = some (.inr (6, [.int 0, .null, .null, .null, .null, .int 0]))) : Met l yX6_init (ws_ yX6_init cX6_init 1 none) { frames := 1, cells := 8, slots := 20, locals := 40 } (va_Pc [.ref q] (WD lo (gX g X) h σ))
    (va_Qv (fun (u : (Nat → Option va_E) × Nat × Nat × Nat × Nat × (Nat → Nat)) => (∀ a e, a ≠ q → X a = some e → u.1 a = some e) ∧ u.1 q = some (simE u.2.1 u.2.2.1 u.2.2.2.1 u.2.2.2.2.1) ∧ u.1 u.2.1 = some (Er (fun _ => none) 0 (g.2.2.2.1 0)) ∧ u.1 u.2.2.1 = some (Er (fun i => if i < 4 then some (u.2.2.2.2.2 i) else none) 4 (g.2.2.2.1 2)) ∧ (∀ i, i < 4 → u.1 (u.2.2.2.2.2 i) = some (.inl (g.2.1.2.1, 4, .inl (fun _ => 0)))) ∧ (∀ i j, i < 4 → j < 4 → u.2.2.2.2.2 i = u.2.2.2.2.2 j → i = j) ∧ u.1 u.2.2.2.1 = some (Er (fun _ => none) 0 (g.2.2.2.1 3)))
      (fun u t => FW (gX g u.1) h (Ax lo) σ t.heap) (Ax lo)) 8 20 (Ax lo) := by
  refine ofB (own := RX6) (by decide +kernel) rfl (fun p e s m below meth c C0 hr hlk hlo hK0 hZ hW hS ls hl => ?_) (Nat.le_of_ble_eq_true rfl)
  have hK : KW g s := hK0
  have hx := C0.1
  have hb := C0.2.1
  have hA : ∀ q : Nat, s.heap.size ≤ q → Ax lo q := fun q hq => Nat.le_trans hlo hq
  have hl : lv_has ls 1 [(0, .ref q)] := hl
  refine lv_aload_n hx hb dX6_init_0 rfl (lv_at hl 0 rfl) ?_
  refine W.objInit hx hb C0.2.2.2.1 (C0.2.2.2.2 _ wML_X6_1) (C0.2.2.2.2 _ wIM_java_lang_Object__init____V) (C0.2.2.2.2 _ wCO_java_lang_Object__init____V) rfl (hl.1.trans C0.2.2.1.symm) rfl dX6_init_1 (Nat.le_of_ble_eq_true rfl) (Nat.le_of_ble_eq_true rfl) ?_
  refine W.eq (g2 := F0 m 4 ls []) rfl ?_
  refine lv_aload_n hx hb dX6_init_4 rfl (lv_at hl 0 rfl) ?_
  refine lv_iconst (v := 0) hx hb dX6_init_5 (by decide) ?_
  refine xna (N := 0) C0 hK hW hS hA wCL_X6_7 (by decide) (by decide) (by decide) (Nat.le_of_ble_eq_true rfl) (Nat.le_of_ble_eq_true rfl) dX6_init_6 (fun a1 H h1 hW hS => ?_)
  have n1 : a1 ≠ q := fun z => by rw [z, hq] at h1; cases h1
  have hq1 := (xU_ne (e := Er (fun _ => none) 0 (g.2.2.2.1 0)) n1.symm).trans hq
  have v1 : xU X a1 (Er (fun _ => none) 0 (g.2.2.2.1 0)) a1 = _ := xU_self _ _ _
  have le1 : xLe X (xU X a1 (Er (fun _ => none) 0 (g.2.2.2.1 0))) := xLe.nw h1
  generalize xU X a1 (Er (fun _ => none) 0 (g.2.2.2.1 0)) = X1 at hW hq1 v1 le1
  refine xpf (ci := 6) (C := RX6) (T := TX6) (N := 6) C0 hK hW hS hq1 rfl inX6_B tyX6_ok nmX6 1 (by decide) wFL_X6_9 rfl rfl rfl rfl (Nat.le_of_ble_eq_true rfl) dX6_init_9 (fun H locs hW hS => ?_)
  have k1 : ∀ a e, a ≠ q → X a = some e → xU X1 q (.inr (6, [.int 0, .ref a1, .null, .null, .null, .int 0])) a = some e := fun a e ha h9 => (xU_ne ha).trans (le1 a e h9)
  have w1 := (xU_ne (e := .inr (6, [.int 0, .ref a1, .null, .null, .null, .int 0])) n1).trans v1
  have hq2 : xU X1 q (.inr (6, [.int 0, .ref a1, .null, .null, .null, .int 0])) q = _ := xU_self _ _ _
  have hW : FW (gX g (xU X1 q (.inr (6, [.int 0, .ref a1, .null, .null, .null, .int 0])))) h (Ax lo) σ H := hW
  generalize xU X1 q (.inr (6, [.int 0, .ref a1, .null, .null, .null, .int 0])) = X2 at hW hq2 w1 k1
  refine lv_aload_n hx hb dX6_init_12 rfl (lv_at hl 0 rfl) ?_
  refine lv_iconst (v := 4) hx hb dX6_init_13 (by decide) ?_
  refine lv_iconst (v := 4) hx hb dX6_init_14 (by decide) ?_
  refine xnm (ty := .boolean) (N' := 4) (K' := 4) (z := (4, .inl (fun _ => 0))) C0 hK hW hS hA 8 wCL_X6_15 hK.2.2.2.2.2.2.2.1 (C0.2.2.2.2 _ warrayClass__boolean) (hK.1.2 1 (g.2.1.2.1, .boolean) rfl).2 rfl (by decide) (by decide) (by decide) (by decide) (by decide) (by decide) (by decide) rfl rfl (Nat.le_of_ble_eq_true rfl) (Nat.le_of_ble_eq_true rfl) (fun c => rfl) dX6_init_15 (fun a2 rr X3 H h2 hrr hinj le3 v2 vr hW hS => ?_)
  have n2 : a2 ≠ q := fun z => by rw [z, hq2] at h2; cases h2
  have hq3 := le3 _ _ hq2
  have w1 := le3 _ _ w1
  have k1 : ∀ a e, a ≠ q → X a = some e → X3 a = some e := fun a e ha h9 => le3 _ _ (k1 a e ha h9)
  have nr : ∀ i, i < 4 → rr i ≠ q := fun i hi z => by have := (hrr i hi).1; rw [z, hq2] at this; cases this
  refine xpf (ci := 6) (C := RX6) (T := TX6) (N := 6) C0 hK hW hS hq3 rfl inX6_B tyX6_ok nmX6 2 (by decide) wFL_X6_17 rfl rfl rfl rfl (Nat.le_of_ble_eq_true rfl) dX6_init_19 (fun H locs hW hS => ?_)
  have hW : FW (gX g (xU X3 q (.inr (6, [.int 0, .ref a1, .ref a2, .null, .null, .int 0])))) h (Ax lo) σ H := hW
  have k1 : ∀ a e, a ≠ q → X a = some e → xU X3 q (.inr (6, [.int 0, .ref a1, .ref a2, .null, .null, .int 0])) a = some e := fun a e ha h9 => (xU_ne ha).trans (k1 a e ha h9)
  have w1 := (xU_ne (e := .inr (6, [.int 0, .ref a1, .ref a2, .null, .null, .int 0])) n1).trans w1
  have w2 := (xU_ne (e := .inr (6, [.int 0, .ref a1, .ref a2, .null, .null, .int 0])) n2).trans v2
  have wr : ∀ i, i < 4 → xU X3 q (.inr (6, [.int 0, .ref a1, .ref a2, .null, .null, .int 0])) (rr i) = _ := fun i hi => (xU_ne (nr i hi)).trans (vr i hi)
  have hq4 : xU X3 q (.inr (6, [.int 0, .ref a1, .ref a2, .null, .null, .int 0])) q = _ := xU_self _ _ _
  generalize xU X3 q (.inr (6, [.int 0, .ref a1, .ref a2, .null, .null, .int 0])) = X4 at hW hq4 w1 w2 wr k1
  refine lv_aload_n hx hb dX6_init_22 rfl (lv_at hl 0 rfl) ?_
  refine lv_iconst (v := 0) hx hb dX6_init_23 (by decide) ?_
  refine xnb (N := 0) C0 hK hW hS hA wCL_X6_20 (by decide) (by decide) (by decide) (Nat.le_of_ble_eq_true rfl) (Nat.le_of_ble_eq_true rfl) dX6_init_24 (fun a3 H h3 hW hS => ?_)
  have n3 : a3 ≠ q := fun z => by rw [z, hq4] at h3; cases h3
  have le5 : xLe X4 (xU X4 a3 (Er (fun _ => none) 0 (g.2.2.2.1 3))) := xLe.nw h3
  have v3 : xU X4 a3 (Er (fun _ => none) 0 (g.2.2.2.1 3)) a3 = _ := xU_self _ _ _
  generalize xU X4 a3 (Er (fun _ => none) 0 (g.2.2.2.1 3)) = X5 at hW le5 v3
  have k1 : ∀ a e, a ≠ q → X a = some e → X5 a = some e := fun a e ha h9 => le5 _ _ (k1 a e ha h9)
  have w1 := le5 _ _ w1
  have w2 := le5 _ _ w2
  have wr : ∀ i, i < 4 → X5 (rr i) = _ := fun i hi => le5 _ _ (wr i hi)
  have hq5 := le5 _ _ hq4
  refine xpf (ci := 6) (C := RX6) (T := TX6) (N := 6) C0 hK hW hS hq5 rfl inX6_B tyX6_ok nmX6 3 (by decide) wFL_X6_22 rfl rfl rfl rfl (Nat.le_of_ble_eq_true rfl) dX6_init_27 (fun H locs hW hS => ?_)
  have hW : FW (gX g (xU X5 q (.inr (6, [.int 0, .ref a1, .ref a2, .ref a3, .null, .int 0])))) h (Ax lo) σ H := hW
  have k1 : ∀ a e, a ≠ q → X a = some e → xU X5 q (.inr (6, [.int 0, .ref a1, .ref a2, .ref a3, .null, .int 0])) a = some e := fun a e ha h9 => (xU_ne ha).trans (k1 a e ha h9)
  have w1 := (xU_ne (e := .inr (6, [.int 0, .ref a1, .ref a2, .ref a3, .null, .int 0])) n1).trans w1
  have w2 := (xU_ne (e := .inr (6, [.int 0, .ref a1, .ref a2, .ref a3, .null, .int 0])) n2).trans w2
  have w3 := (xU_ne (e := .inr (6, [.int 0, .ref a1, .ref a2, .ref a3, .null, .int 0])) n3).trans v3
  have wr : ∀ i, i < 4 → xU X5 q (.inr (6, [.int 0, .ref a1, .ref a2, .ref a3, .null, .int 0])) (rr i) = _ := fun i hi => (xU_ne (nr i hi)).trans (wr i hi)
  have hq6 : xU X5 q (.inr (6, [.int 0, .ref a1, .ref a2, .ref a3, .null, .int 0])) q = _ := xU_self _ _ _
  generalize xU X5 q (.inr (6, [.int 0, .ref a1, .ref a2, .ref a3, .null, .int 0])) = X6 at hW hq6 w1 w2 w3 wr k1
  refine lv_aload_n hx hb dX6_init_30 rfl (lv_at hl 0 rfl) ?_
  refine lv_iconst (v := 0) hx hb dX6_init_31 (by decide) ?_
  refine xna (N := 0) C0 hK hW hS hA wCL_X6_7 (by decide) (by decide) (by decide) (Nat.le_of_ble_eq_true rfl) (Nat.le_of_ble_eq_true rfl) dX6_init_32 (fun a4 H h4 hW hS => ?_)
  have n4 : a4 ≠ q := fun z => by rw [z, hq6] at h4; cases h4
  have le7 : xLe X6 (xU X6 a4 (Er (fun _ => none) 0 (g.2.2.2.1 0))) := xLe.nw h4
  generalize xU X6 a4 (Er (fun _ => none) 0 (g.2.2.2.1 0)) = X7 at hW le7
  have hq7 := le7 _ _ hq6
  refine xpf (ci := 6) (C := RX6) (T := TX6) (N := 6) C0 hK hW hS hq7 rfl inX6_B tyX6_ok nmX6 4 (by decide) wFL_X6_26 rfl rfl rfl rfl (Nat.le_of_ble_eq_true rfl) dX6_init_35 (fun H locs hW hS => ?_)
  have hW : FW (gX g (xU X7 q (simE a1 a2 a3 a4))) h (Ax lo) σ H := hW
  refine W.widen (k := 8) (n := 20) (Nat.le_of_ble_eq_true rfl) (Nat.le_of_ble_eq_true rfl) ?_
  exact W.vret hx hb hr (fun t ht hw => ⟨⟨(xU X7 q (simE a1 a2 a3 a4), a1, a2, a3, a4, rr), rfl, ⟨fun a e ha h9 => (xU_ne ha).trans (le7 _ _ (k1 a e ha h9)), xU_self _ _ _, (xU_ne n1).trans (le7 _ _ w1), (xU_ne n2).trans (le7 _ _ w2), fun i hi => (xU_ne (nr i hi)).trans (le7 _ _ (wr i hi)), hinj, (xU_ne n3).trans (le7 _ _ w3)⟩, by subst ht; exact hW⟩, hS.F ht⟩) hS.2.2 dX6_init_38 hlk

/-- what a bird of the law's holds -/
def birdE (s w n p q : Int32) (a1 a2 a3 : Nat) : va_E := .inr (5, [.int s, .int w, .int n, .int p, .int q, .int 1, .long 0, .long 0, .int 0, .ref a1, .ref a2, .ref a3])
set_option maxHeartbeats 8000000 in
theorem kX5_init (l : Launch) (lo : Nat) (g : Gx) (h : Sh) (σ : Sg) (X : Nat → Option va_E) (q : Nat) (hq : X q = some (.inr (5, [.int 0, .int 0, .int 0, .int 0, .int 0, .int 0, .long 0, .long 0, .int 0, .null, .null, .null]))) : Met l yX5_init (ws_ yX5_init cX5_init 1 none) { frames := 1, cells := 6, slots := 20, locals := 40 } (va_Pc [.ref q] (WD lo (gX g X) h σ))
    (va_Qv (fun (u : (Nat → Option va_E) × Nat × Nat × Nat × (Nat → Nat) × (Nat → Int32)) => (∀ a e, a ≠ q → X a = some e → u.1 a = some e) ∧ u.1 q = some (birdE 0 0 0 0 0 u.2.1 u.2.2.1 u.2.2.2.1) ∧ u.1 u.2.1 = some (Er (fun _ => none) 0 (g.2.2.2.1 0)) ∧ u.1 u.2.2.1 = some (Er (fun i => if i < 3 then some (u.2.2.2.2.1 i) else none) 3 (g.2.2.2.1 1)) ∧ (∀ i, i < 3 → u.1 (u.2.2.2.2.1 i) = some (Er (fun _ => none) 0 (g.2.2.2.1 0))) ∧ (∀ i j, i < 3 → j < 3 → u.2.2.2.2.1 i = u.2.2.2.2.1 j → i = j) ∧ u.1 u.2.2.2.1 = some (.inl (g.2.1.1, 6, .inl u.2.2.2.2.2)) ∧ ∀ a e, a ≠ q → X a = some e → a ≠ u.2.1 ∧ a ≠ u.2.2.1 ∧ a ≠ u.2.2.2.1 ∧ ∀ i, i < 3 → a ≠ u.2.2.2.2.1 i)
      (fun u t => FW (gX g u.1) h (Ax lo) σ t.heap) (Ax lo)) 6 20 (Ax lo) := by
  refine ofB (own := RX5) (by decide +kernel) rfl (fun p e s m below meth c C0 hr hlk hlo hK0 hZ hW hS ls hl => ?_) (Nat.le_of_ble_eq_true rfl)
  have hK : KW g s := hK0
  have hx := C0.1
  have hb := C0.2.1
  have hA : ∀ q : Nat, s.heap.size ≤ q → Ax lo q := fun q hq => Nat.le_trans hlo hq
  have hl : lv_has ls 1 [(0, .ref q)] := hl
  refine lv_aload_n hx hb dX5_init_0 rfl (lv_at hl 0 rfl) ?_
  refine W.objInit hx hb C0.2.2.2.1 (C0.2.2.2.2 _ wML_X5_1) (C0.2.2.2.2 _ wIM_java_lang_Object__init____V) (C0.2.2.2.2 _ wCO_java_lang_Object__init____V) rfl (hl.1.trans C0.2.2.1.symm) rfl dX5_init_1 (Nat.le_of_ble_eq_true rfl) (Nat.le_of_ble_eq_true rfl) ?_
  refine W.eq (g2 := F0 m 4 ls []) rfl ?_
  have k1 : ∀ a e, a ≠ q → X a = some e → X a = some e := fun _ _ _ h9 => h9
  refine lv_aload_n hx hb dX5_init_4 rfl (lv_at hl 0 rfl) ?_
  refine lv_iconst (v := 1) hx hb dX5_init_5 (by decide) ?_
  refine xpf (ci := 5) (C := RX5) (T := TX5) (N := 12) C0 hK hW hS hq rfl inX5_B tyX5_ok nmX5 5 (by decide) wFL_X5_7 rfl rfl rfl rfl (Nat.le_of_ble_eq_true rfl) dX5_init_6 (fun H locs hW hS => ?_)
  have hW : FW (gX g (xU X q (.inr (5, [.int 0, .int 0, .int 0, .int 0, .int 0, .int 1, .long 0, .long 0, .int 0, .null, .null, .null])))) h (Ax lo) σ H := hW
  have k1 : ∀ a e, a ≠ q → X a = some e → xU X q (.inr (5, [.int 0, .int 0, .int 0, .int 0, .int 0, .int 1, .long 0, .long 0, .int 0, .null, .null, .null])) a = some e := fun a e ha h9 => (xU_ne ha).trans (k1 a e ha h9)
  have hq : xU X q (.inr (5, [.int 0, .int 0, .int 0, .int 0, .int 0, .int 1, .long 0, .long 0, .int 0, .null, .null, .null])) q = _ := xU_self _ _ _
  generalize xU X q (.inr (5, [.int 0, .int 0, .int 0, .int 0, .int 0, .int 1, .long 0, .long 0, .int 0, .null, .null, .null])) = Y2 at hW hq k1
  refine lv_aload_n hx hb dX5_init_9 rfl (lv_at hl 0 rfl) ?_
  refine lv_iconst (v := 0) hx hb dX5_init_10 (by decide) ?_
  have kA := k1
  refine xna (N := 0) C0 hK hW hS hA wCL_X5_13 (by decide) (by decide) (by decide) (Nat.le_of_ble_eq_true rfl) (Nat.le_of_ble_eq_true rfl) dX5_init_11 (fun a1 H ha1 hW hS => ?_)
  have na1 : a1 ≠ q := fun z => by rw [z, hq] at ha1; cases ha1
  have le : xLe Y2 (xU Y2 a1 (Er (fun _ => none) 0 (g.2.2.2.1 0))) := xLe.nw ha1
  have wa1 : xU Y2 a1 (Er (fun _ => none) 0 (g.2.2.2.1 0)) a1 = _ := xU_self _ _ _
  generalize xU Y2 a1 (Er (fun _ => none) 0 (g.2.2.2.1 0)) = Za1 at hW le wa1
  have k1 : ∀ a e, a ≠ q → X a = some e → Za1 a = some e := fun a e ha h9 => le _ _ (k1 a e ha h9)
  have hq := le _ _ hq
  refine xpf (ci := 5) (C := RX5) (T := TX5) (N := 12) C0 hK hW hS hq rfl inX5_B tyX5_ok nmX5 9 (by decide) wFL_X5_15 rfl rfl rfl rfl (Nat.le_of_ble_eq_true rfl) dX5_init_14 (fun H locs hW hS => ?_)
  have hW : FW (gX g (xU Za1 q (.inr (5, [.int 0, .int 0, .int 0, .int 0, .int 0, .int 1, .long 0, .long 0, .int 0, .ref a1, .null, .null])))) h (Ax lo) σ H := hW
  have k1 : ∀ a e, a ≠ q → X a = some e → xU Za1 q (.inr (5, [.int 0, .int 0, .int 0, .int 0, .int 0, .int 1, .long 0, .long 0, .int 0, .ref a1, .null, .null])) a = some e := fun a e ha h9 => (xU_ne ha).trans (k1 a e ha h9)
  have wa1 := (xU_ne (e := (.inr (5, [.int 0, .int 0, .int 0, .int 0, .int 0, .int 1, .long 0, .long 0, .int 0, .ref a1, .null, .null]))) na1).trans wa1
  have hq : xU Za1 q (.inr (5, [.int 0, .int 0, .int 0, .int 0, .int 0, .int 1, .long 0, .long 0, .int 0, .ref a1, .null, .null])) q = _ := xU_self _ _ _
  generalize xU Za1 q (.inr (5, [.int 0, .int 0, .int 0, .int 0, .int 0, .int 1, .long 0, .long 0, .int 0, .ref a1, .null, .null])) = Y4 at hW hq k1 wa1
  refine lv_aload_n hx hb dX5_init_17 rfl (lv_at hl 0 rfl) ?_
  refine lv_iconst (v := 3) hx hb dX5_init_18 (by decide) ?_
  refine lv_iconst (v := 0) hx hb dX5_init_19 (by decide) ?_
  have kB := k1
  refine xnm (ty := .array .int) (cy := g.2.2.2.1 0) (N' := 3) (K' := 0) (z := (0, .inr (.inr (.inr (.inr (fun _ => none)))))) C0 hK hW hS hA 7 wCL_X5_19 hK.2.2.2.2.2.2.2.2 (ac_of hK.2.2.2.2.2.2.1) (hK.1.2 6 (g.2.2.2.1 0, .array .int) rfl).2 rfl (by decide) (by decide) (by decide) (by decide) (by decide) (by decide) (by decide) rfl rfl (Nat.le_of_ble_eq_true rfl) (Nat.le_of_ble_eq_true rfl) (fun c => by rw [vp_cell_q]; exact arrV_new c 0 .null) dX5_init_20 (fun a2 rr X3 H ha2 hrr hinj le wa2 wr hW hS => ?_)
  have na2 : a2 ≠ q := fun z => by rw [z, hq] at ha2; cases ha2
  have nr : ∀ i, i < 3 → rr i ≠ q := fun i hi z => by have := (hrr i hi).1; rw [z, hq] at this; cases this
  have k1 : ∀ a e, a ≠ q → X a = some e → X3 a = some e := fun a e ha h9 => le _ _ (k1 a e ha h9)
  have wa1 := le _ _ wa1
  have hq := le _ _ hq
  refine xpf (ci := 5) (C := RX5) (T := TX5) (N := 12) C0 hK hW hS hq rfl inX5_B tyX5_ok nmX5 10 (by decide) wFL_X5_21 rfl rfl rfl rfl (Nat.le_of_ble_eq_true rfl) dX5_init_24 (fun H locs hW hS => ?_)
  have hW : FW (gX g (xU X3 q (.inr (5, [.int 0, .int 0, .int 0, .int 0, .int 0, .int 1, .long 0, .long 0, .int 0, .ref a1, .ref a2, .null])))) h (Ax lo) σ H := hW
  have k1 : ∀ a e, a ≠ q → X a = some e → xU X3 q (.inr (5, [.int 0, .int 0, .int 0, .int 0, .int 0, .int 1, .long 0, .long 0, .int 0, .ref a1, .ref a2, .null])) a = some e := fun a e ha h9 => (xU_ne ha).trans (k1 a e ha h9)
  have wa1 := (xU_ne (e := (.inr (5, [.int 0, .int 0, .int 0, .int 0, .int 0, .int 1, .long 0, .long 0, .int 0, .ref a1, .ref a2, .null]))) na1).trans wa1
  have wa2 := (xU_ne (e := (.inr (5, [.int 0, .int 0, .int 0, .int 0, .int 0, .int 1, .long 0, .long 0, .int 0, .ref a1, .ref a2, .null]))) na2).trans wa2
  have wr : ∀ i, i < 3 → xU X3 q (.inr (5, [.int 0, .int 0, .int 0, .int 0, .int 0, .int 1, .long 0, .long 0, .int 0, .ref a1, .ref a2, .null])) (rr i) = _ := fun i hi => (xU_ne (nr i hi)).trans (wr i hi)
  have hq : xU X3 q (.inr (5, [.int 0, .int 0, .int 0, .int 0, .int 0, .int 1, .long 0, .long 0, .int 0, .ref a1, .ref a2, .null])) q = _ := xU_self _ _ _
  generalize xU X3 q (.inr (5, [.int 0, .int 0, .int 0, .int 0, .int 0, .int 1, .long 0, .long 0, .int 0, .ref a1, .ref a2, .null])) = Y6 at hW hq k1 wa1 wa2 wr
  refine lv_aload_n hx hb dX5_init_27 rfl (lv_at hl 0 rfl) ?_
  refine lv_bipush (v := 6) hx hb dX5_init_28 (by decide) ?_
  have k0 := k1
  refine xni (N := 6) C0 hK hW hS hA (by decide) (by decide) (by decide) (Nat.le_of_ble_eq_true rfl) (Nat.le_of_ble_eq_true rfl) dX5_init_30 (fun a3 H ha3 hW hS => ?_)
  have na3 : a3 ≠ q := fun z => by rw [z, hq] at ha3; cases ha3
  have le : xLe Y6 (xU Y6 a3 (.inl (g.2.1.1, 6, .inl (fun _ => 0)))) := xLe.nw ha3
  have wa3 : xU Y6 a3 (.inl (g.2.1.1, 6, .inl (fun _ => 0))) a3 = _ := xU_self _ _ _
  generalize xU Y6 a3 (.inl (g.2.1.1, 6, .inl (fun _ => 0))) = Za3 at hW le wa3
  have k1 : ∀ a e, a ≠ q → X a = some e → Za3 a = some e := fun a e ha h9 => le _ _ (k1 a e ha h9)
  have wa1 := le _ _ wa1
  have wa2 := le _ _ wa2
  have wr : ∀ i, i < 3 → Za3 (rr i) = _ := fun i hi => le _ _ (wr i hi)
  have hq := le _ _ hq
  have n31 : a3 ≠ a1 := fun z => by rw [← z, wa3] at wa1; exact absurd (inl_n wa1) (show ¬ (6 : Nat) = 0 by decide)
  have n32 : a3 ≠ a2 := fun z => by rw [← z, wa3] at wa2; exact absurd (inl_n wa2) (show ¬ (6 : Nat) = 3 by decide)
  have n3r : ∀ i, i < 3 → a3 ≠ rr i := fun i hi z => by have w9 := wr i hi; rw [← z, wa3] at w9; exact absurd (inl_n w9) (show ¬ (6 : Nat) = 0 by decide)
  have nX : ∀ a e, X a = some e → a ≠ q → a ≠ a3 := fun a e h9 hn z => by have w9 := k0 a e hn h9; rw [z, ha3] at w9; cases w9
  refine lv_dup hx hb dX5_init_32 rfl ?_
  refine lv_iconst (v := 0) hx hb dX5_init_33 (by decide) ?_
  refine lv_bipush (v := 60) hx hb dX5_init_34 (by decide) ?_
  refine xis C0 hK hW hS wa3 (show vp_in 0 6 by unfold vp_in; decide) dX5_init_36 (fun H locs hW hS => ?_)
  obtain ⟨f0, he3⟩ : ∃ f : Nat → Int32, f = upd (fun _ => 0) (0 : Int32).toNatClampNeg 60 := ⟨_, rfl⟩
  rw [← he3] at hW
  clear he3
  have k1 : ∀ a e, a ≠ q → X a = some e → xU Za3 a3 (.inl (g.2.1.1, 6, .inl f0)) a = some e := fun a e ha h9 => (xU_ne (nX a e h9 ha)).trans (k1 a e ha h9)
  have wa1 := (xU_ne (e := (.inl (g.2.1.1, 6, .inl f0))) n31.symm).trans wa1
  have wa2 := (xU_ne (e := (.inl (g.2.1.1, 6, .inl f0))) n32.symm).trans wa2
  have wr : ∀ i, i < 3 → xU Za3 a3 (.inl (g.2.1.1, 6, .inl f0)) (rr i) = _ := fun i hi => (xU_ne (n3r i hi).symm).trans (wr i hi)
  have hq := (xU_ne (e := (.inl (g.2.1.1, 6, .inl f0))) na3.symm).trans hq
  have wa3 : xU Za3 a3 (.inl (g.2.1.1, 6, .inl f0)) a3 = _ := xU_self _ _ _
  generalize xU Za3 a3 (.inl (g.2.1.1, 6, .inl f0)) = W0 at hW hq k1 wa1 wa2 wa3 wr
  refine lv_dup hx hb dX5_init_37 rfl ?_
  refine lv_iconst (v := 1) hx hb dX5_init_38 (by decide) ?_
  refine lv_bipush (v := 62) hx hb dX5_init_39 (by decide) ?_
  refine xis C0 hK hW hS wa3 (show vp_in 1 6 by unfold vp_in; decide) dX5_init_41 (fun H locs hW hS => ?_)
  obtain ⟨f1, he3⟩ : ∃ f : Nat → Int32, f = upd f0 (1 : Int32).toNatClampNeg 62 := ⟨_, rfl⟩
  rw [← he3] at hW
  clear he3
  have k1 : ∀ a e, a ≠ q → X a = some e → xU W0 a3 (.inl (g.2.1.1, 6, .inl f1)) a = some e := fun a e ha h9 => (xU_ne (nX a e h9 ha)).trans (k1 a e ha h9)
  have wa1 := (xU_ne (e := (.inl (g.2.1.1, 6, .inl f1))) n31.symm).trans wa1
  have wa2 := (xU_ne (e := (.inl (g.2.1.1, 6, .inl f1))) n32.symm).trans wa2
  have wr : ∀ i, i < 3 → xU W0 a3 (.inl (g.2.1.1, 6, .inl f1)) (rr i) = _ := fun i hi => (xU_ne (n3r i hi).symm).trans (wr i hi)
  have hq := (xU_ne (e := (.inl (g.2.1.1, 6, .inl f1))) na3.symm).trans hq
  have wa3 : xU W0 a3 (.inl (g.2.1.1, 6, .inl f1)) a3 = _ := xU_self _ _ _
  generalize xU W0 a3 (.inl (g.2.1.1, 6, .inl f1)) = W1 at hW hq k1 wa1 wa2 wa3 wr
  refine lv_dup hx hb dX5_init_42 rfl ?_
  refine lv_iconst (v := 2) hx hb dX5_init_43 (by decide) ?_
  refine lv_bipush (v := 64) hx hb dX5_init_44 (by decide) ?_
  refine xis C0 hK hW hS wa3 (show vp_in 2 6 by unfold vp_in; decide) dX5_init_46 (fun H locs hW hS => ?_)
  obtain ⟨f2, he3⟩ : ∃ f : Nat → Int32, f = upd f1 (2 : Int32).toNatClampNeg 64 := ⟨_, rfl⟩
  rw [← he3] at hW
  clear he3
  have k1 : ∀ a e, a ≠ q → X a = some e → xU W1 a3 (.inl (g.2.1.1, 6, .inl f2)) a = some e := fun a e ha h9 => (xU_ne (nX a e h9 ha)).trans (k1 a e ha h9)
  have wa1 := (xU_ne (e := (.inl (g.2.1.1, 6, .inl f2))) n31.symm).trans wa1
  have wa2 := (xU_ne (e := (.inl (g.2.1.1, 6, .inl f2))) n32.symm).trans wa2
  have wr : ∀ i, i < 3 → xU W1 a3 (.inl (g.2.1.1, 6, .inl f2)) (rr i) = _ := fun i hi => (xU_ne (n3r i hi).symm).trans (wr i hi)
  have hq := (xU_ne (e := (.inl (g.2.1.1, 6, .inl f2))) na3.symm).trans hq
  have wa3 : xU W1 a3 (.inl (g.2.1.1, 6, .inl f2)) a3 = _ := xU_self _ _ _
  generalize xU W1 a3 (.inl (g.2.1.1, 6, .inl f2)) = W2 at hW hq k1 wa1 wa2 wa3 wr
  refine lv_dup hx hb dX5_init_47 rfl ?_
  refine lv_iconst (v := 3) hx hb dX5_init_48 (by decide) ?_
  refine lv_bipush (v := 66) hx hb dX5_init_49 (by decide) ?_
  refine xis C0 hK hW hS wa3 (show vp_in 3 6 by unfold vp_in; decide) dX5_init_51 (fun H locs hW hS => ?_)
  obtain ⟨f3, he3⟩ : ∃ f : Nat → Int32, f = upd f2 (3 : Int32).toNatClampNeg 66 := ⟨_, rfl⟩
  rw [← he3] at hW
  clear he3
  have k1 : ∀ a e, a ≠ q → X a = some e → xU W2 a3 (.inl (g.2.1.1, 6, .inl f3)) a = some e := fun a e ha h9 => (xU_ne (nX a e h9 ha)).trans (k1 a e ha h9)
  have wa1 := (xU_ne (e := (.inl (g.2.1.1, 6, .inl f3))) n31.symm).trans wa1
  have wa2 := (xU_ne (e := (.inl (g.2.1.1, 6, .inl f3))) n32.symm).trans wa2
  have wr : ∀ i, i < 3 → xU W2 a3 (.inl (g.2.1.1, 6, .inl f3)) (rr i) = _ := fun i hi => (xU_ne (n3r i hi).symm).trans (wr i hi)
  have hq := (xU_ne (e := (.inl (g.2.1.1, 6, .inl f3))) na3.symm).trans hq
  have wa3 : xU W2 a3 (.inl (g.2.1.1, 6, .inl f3)) a3 = _ := xU_self _ _ _
  generalize xU W2 a3 (.inl (g.2.1.1, 6, .inl f3)) = W3 at hW hq k1 wa1 wa2 wa3 wr
  refine lv_dup hx hb dX5_init_52 rfl ?_
  refine lv_iconst (v := 4) hx hb dX5_init_53 (by decide) ?_
  refine lv_bipush (v := 68) hx hb dX5_init_54 (by decide) ?_
  refine xis C0 hK hW hS wa3 (show vp_in 4 6 by unfold vp_in; decide) dX5_init_56 (fun H locs hW hS => ?_)
  obtain ⟨f4, he3⟩ : ∃ f : Nat → Int32, f = upd f3 (4 : Int32).toNatClampNeg 68 := ⟨_, rfl⟩
  rw [← he3] at hW
  clear he3
  have k1 : ∀ a e, a ≠ q → X a = some e → xU W3 a3 (.inl (g.2.1.1, 6, .inl f4)) a = some e := fun a e ha h9 => (xU_ne (nX a e h9 ha)).trans (k1 a e ha h9)
  have wa1 := (xU_ne (e := (.inl (g.2.1.1, 6, .inl f4))) n31.symm).trans wa1
  have wa2 := (xU_ne (e := (.inl (g.2.1.1, 6, .inl f4))) n32.symm).trans wa2
  have wr : ∀ i, i < 3 → xU W3 a3 (.inl (g.2.1.1, 6, .inl f4)) (rr i) = _ := fun i hi => (xU_ne (n3r i hi).symm).trans (wr i hi)
  have hq := (xU_ne (e := (.inl (g.2.1.1, 6, .inl f4))) na3.symm).trans hq
  have wa3 : xU W3 a3 (.inl (g.2.1.1, 6, .inl f4)) a3 = _ := xU_self _ _ _
  generalize xU W3 a3 (.inl (g.2.1.1, 6, .inl f4)) = W4 at hW hq k1 wa1 wa2 wa3 wr
  refine lv_dup hx hb dX5_init_57 rfl ?_
  refine lv_iconst (v := 5) hx hb dX5_init_58 (by decide) ?_
  refine lv_bipush (v := 70) hx hb dX5_init_59 (by decide) ?_
  refine xis C0 hK hW hS wa3 (show vp_in 5 6 by unfold vp_in; decide) dX5_init_61 (fun H locs hW hS => ?_)
  obtain ⟨f5, he3⟩ : ∃ f : Nat → Int32, f = upd f4 (5 : Int32).toNatClampNeg 70 := ⟨_, rfl⟩
  rw [← he3] at hW
  clear he3
  have k1 : ∀ a e, a ≠ q → X a = some e → xU W4 a3 (.inl (g.2.1.1, 6, .inl f5)) a = some e := fun a e ha h9 => (xU_ne (nX a e h9 ha)).trans (k1 a e ha h9)
  have wa1 := (xU_ne (e := (.inl (g.2.1.1, 6, .inl f5))) n31.symm).trans wa1
  have wa2 := (xU_ne (e := (.inl (g.2.1.1, 6, .inl f5))) n32.symm).trans wa2
  have wr : ∀ i, i < 3 → xU W4 a3 (.inl (g.2.1.1, 6, .inl f5)) (rr i) = _ := fun i hi => (xU_ne (n3r i hi).symm).trans (wr i hi)
  have hq := (xU_ne (e := (.inl (g.2.1.1, 6, .inl f5))) na3.symm).trans hq
  have wa3 : xU W4 a3 (.inl (g.2.1.1, 6, .inl f5)) a3 = _ := xU_self _ _ _
  generalize xU W4 a3 (.inl (g.2.1.1, 6, .inl f5)) = W5 at hW hq k1 wa1 wa2 wa3 wr
  have fresh : ∀ a e, a ≠ q → X a = some e → a ≠ a1 ∧ a ≠ a2 ∧ a ≠ a3 ∧ ∀ i, i < 3 → a ≠ rr i := fun a e hn h9 => ⟨fun z => (by have w9 := kA a e hn h9; rw [z, ha1] at w9; cases w9), fun z => (by have w9 := kB a e hn h9; rw [z, ha2] at w9; cases w9), nX a e h9 hn, fun i hi z => (by have w9 := kB a e hn h9; rw [z, (hrr i hi).1] at w9; cases w9)⟩
  refine xpf (ci := 5) (C := RX5) (T := TX5) (N := 12) C0 hK hW hS hq rfl inX5_B tyX5_ok nmX5 11 (by decide) wFL_X5_24 rfl rfl rfl rfl (Nat.le_of_ble_eq_true rfl) dX5_init_62 (fun H locs hW hS => ?_)
  have hW : FW (gX g (xU W5 q (birdE 0 0 0 0 0 a1 a2 a3))) h (Ax lo) σ H := hW
  refine W.widen (k := 6) (n := 20) (Nat.le_of_ble_eq_true rfl) (Nat.le_of_ble_eq_true rfl) ?_
  exact W.vret hx hb hr (fun t ht hw => ⟨⟨(xU W5 q (birdE 0 0 0 0 0 a1 a2 a3), a1, a2, a3, rr, f5), rfl, ⟨fun a e ha h9 => (xU_ne ha).trans (k1 a e ha h9), xU_self _ _ _, (xU_ne na1).trans wa1, (xU_ne na2).trans wa2, fun i hi => (xU_ne (nr i hi)).trans (wr i hi), hinj, (xU_ne na3).trans wa3, fresh⟩, by subst ht; exact hW⟩, hS.F ht⟩) hS.2.2 dX5_init_65 hlk
