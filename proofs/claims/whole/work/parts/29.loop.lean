/-! TENSION'S STEP -/
theorem nan_val {r : UInt64} (h : isNaN64 r = true) : Jvm.FP.Core.val64 r = .nan := by
  apply Classical.byContradiction
  intro hn
  have h1 := (Jvm.FP.Core.ne_nan r).mp hn
  have h2 := isNaN64_iff.mp h
  rw [show (0x7fffffffffffffff : Nat) = 2 ^ 63 - 1 from by decide, Nat.and_two_pow_sub_one_eq_mod] at h2
  omega
theorem dc_nan {a b : UInt64} (h : isNaN64 a = true ∨ isNaN64 b = true) : FP.dcmp a b = none :=
  (Jvm.FP.Core.dcmp_none a b).mpr (h.imp nan_val nan_val)
theorem dc_self (a : UInt64) : FP.dcmp a a = none ∨ FP.dcmp a a = some .eq := by
  by_cases h : Jvm.FP.Core.val64 a = .nan
  · exact Or.inl ((Jvm.FP.Core.dcmp_none a a).mpr (Or.inl h))
  · exact Or.inr (Jvm.FP.Core.dcmp_self h)
theorem tens {x r1 r2 : UInt64} (h1 : alike64 r1 x = true) (h2 : alike64 r2 x = true) : FP.dcmp r1 r2 = some .eq ∨ (FP.dcmp r1 r2 = none ∧ FP.dcmp r1 r1 = none ∧ FP.dcmp r2 r2 = none) := by
  simp only [alike64, Bool.or_eq_true, decide_eq_true_eq, Bool.and_eq_true] at h1 h2
  rcases h1 with e1 | ⟨a1, a2⟩
  · rcases h2 with e2 | ⟨b1, b2⟩
    · rw [e1, e2]
      rcases dc_self x with q | q
      · exact Or.inr ⟨q, q, q⟩
      · exact Or.inl q
    · rw [e1]
      exact Or.inr ⟨dc_nan (Or.inl b2), dc_nan (Or.inl b2), dc_nan (Or.inl b1)⟩
  · rcases h2 with e2 | ⟨b1, b2⟩
    · rw [e2]
      exact Or.inr ⟨dc_nan (Or.inl a1), dc_nan (Or.inl a1), dc_nan (Or.inl a2)⟩
    · exact Or.inr ⟨dc_nan (Or.inl a1), dc_nan (Or.inl a1), dc_nan (Or.inl b1)⟩
section LAWLOOP
variable {p : Program} {l : Launch} {e : Env} {R : Room} {s : State} {m : MethodId} {args : Array Value} {below : List Frame} {meth : Method} {c : Code} {H : Heap} {locs : List Loc} {cells slots : Nat} {Q : State → Prop}
variable {cc bytes : ByteArray} {pc nL maxL index n lo mc ms fr lw : Nat} {ls : Array Slot} {rest st0 As : List Value} {own C : String} {g : Gx} {h : Sh} {σ σ1 σ2 : Sg} {y : MethodName} {ret : Option FieldType} {b L : Nat} {xs : Nat → Int32} {Qc : Array Value → State → Outcome → State → Prop}
theorem rd0 (C0 : CallFix p m c cc nL s args wB own) (hX : va_X b L xs s s.heap) (hbl : b < s.heap.size) (hbA : ¬ Ax lo b) (hS : va_S (Ax lo) s.heap H locs) {i : Nat} (hi : i + 6 ≤ L) (hL : L ≤ 3072) (hdg : decode cc pc = .ok (.iaload, 1))
    (kk : W p l e R s m args below meth c H locs cells slots Q (F0 m (pc + 1) ls (.int (xs i) :: rest))) : W p l e R s m args below meth c H locs cells slots Q (F0 m pc ls (.int (nI i) :: .ref b :: rest)) := by
  have e2 : (nI i).toNatClampNeg = i := nI_clamp (by omega)
  refine va_sld C0.1 C0.2.1 hX hbl hbA hS (nI_in (c := i) (N := L) (by omega) (by omega)) hdg ?_
  rw [e2]
  exact kk
theorem runVD (C0 : CallFix p m c cc nL s args wB own) (hlo : lo ≤ s.heap.size) (hK : KW g s) (hZ : ZW lo s s.heap) (hW : FW g h (Ax lo) σ H) (hS : va_S (Ax lo) s.heap H locs)
    (hM : MetD lw_cs l y (ws_ y bytes maxL ret) { frames := fr, cells := mc, slots := ms, locals := lw } (va_Pc (.ref b :: As) (WD lo g h σ)) Qc mc ms (Ax lo))
    (hco : Cond.code y bytes maxL ret ∈ wB) (h1 : Cond.methodLink own index y ∈ wB) (h2 : Cond.instanceMethod y ∈ wB) (h3 : Cond.selects C y y ∈ wB) (h4 : Cond.initialized C ∈ wB)
    (hd : y.cls = C ∧ y.cls ≠ "java/lang/invoke/MethodHandle" ∧ y.cls ≠ "java/lang/invoke/VarHandle" ∧ (parseMethodDescriptor y.desc).map (fun d => d.parameters.length) = some n) (hR : fr + 1 ≤ R.frames ∧ 8 + (maxL + 11) + lw ≤ R.locals)
    (hrec : ∃ cell : Cell, H[b]? = some cell ∧ cell.vm.isStatics = false ∧ s.vm.findClass C = some cell.cls)
    (hn : As.length = n) (hsize : ls.size = nL) (hst : st0 = As.reverse ++ .ref b :: rest) (hrm : (rest.map fun v => v.category).sum ≤ 8) (hdg : decode cc pc = .ok (.invokevirtual index, 3)) (hf : cells + mc ≤ R.cells ∧ slots + ms ≤ R.slots) :
    va_RunD lw_cs p l e R s m args below meth c H locs cells slots mc ms (F0 m pc ls st0) rest (Qc (Value.ref b :: As).toArray) (Ax lo) :=
  va_runV_D (As := As) (rest := rest) C0 hM (cwV n C0.2.2.2.2 (gV (ws_good hco) h1 h2 h3 h4) rfl rfl rfl hd hR) ⟨WD.blind, hrec, fun U hU hw => ⟨rfl, WD.at hlo hK hZ hW hS U hU hw⟩⟩ rfl hn hsize hst (lv_room hrm) hdg hf
theorem hdX4_tension : yX4_tension.cls = RX4 ∧ yX4_tension.cls ≠ "java/lang/invoke/MethodHandle" ∧ yX4_tension.cls ≠ "java/lang/invoke/VarHandle" ∧ (parseMethodDescriptor yX4_tension.desc).map (fun d => d.parameters.length) = some 0 := by decide +kernel
theorem hdX5_tension : yX5_tension.cls = RX5 ∧ yX5_tension.cls ≠ "java/lang/invoke/MethodHandle" ∧ yX5_tension.cls ≠ "java/lang/invoke/VarHandle" ∧ (parseMethodDescriptor yX5_tension.desc).map (fun d => d.parameters.length) = some 0 := by decide +kernel
set_option maxHeartbeats 4000000 in
theorem sL_tension {d0 : Drawn} (hd0 : s.drawn.sameBut d0 lw_cs) {i : Nat} {x : UInt64} (C1 : CallFix p m c cL_law 9 s args wB RL) (hlo : lo ≤ s.heap.size) (hK1 : KW g s) (hZ1 : ZW lo s s.heap) (hcl : cells + 300 ≤ room_1.cells) (hsl : slots + 1100 ≤ room_1.slots) (hW : FW g h (Ax lo) σ H) (hS : va_S (Ax lo) s.heap H locs) (hl : lv_has ls 9 [(4, .int (nI i)), (3, .ref (h.2.2 30 0)), (2, .ref (h.2.2 20 0)), (1, .ref (h.2.2 0 0)), (0, .ref b)])
    (hP1 : FX4_tension h.1 h.2.1 σ = some (x, σ1)) (hP2 : FX5_tension h.1 h.2.1 σ1 = some (x, σ2))
    (kk : ∀ d1 : Drawn, s.drawn.sameBut d1 lw_cs → ∀ (H1 : Heap) (locs1 : List Loc) (ls1 : Array Slot), FW g h (Ax lo) σ2 H1 → va_S (Ax lo) s.heap H1 locs1 → lv_has ls1 9 [(4, .int (nI i)), (3, .ref (h.2.2 30 0)), (2, .ref (h.2.2 20 0)), (1, .ref (h.2.2 0 0)), (0, .ref b)] → W p l e room_1 (s.setDrawn d1) m args below meth c H1 locs1 (cells + 300) (slots + 1100) Q (F0 m 1487 ls1 [])) : W p l e room_1 (s.setDrawn d0) m args below meth c H locs cells slots Q (F0 m 1432 ls []) := by
  have hx := C1.1
  have hb := C1.2.1
  have C0 := C1.dr d0
  have hK := hK1.dr d0
  have hZ := hZ1.dr d0
  refine lv_aload_n hx hb dL_law_1432 rfl (lv_at hl 3 rfl) ?_
  refine va_calldD hd0 (runVD C0 hlo hK hZ hW hS (kX4_tension l lo g h _ _ _ hP1) wCO_X4_tension wML_L_149 wIM_X4_tension wSE_X4_X4_tension wIN_X4 hdX4_tension ⟨Nat.le_of_ble_eq_true rfl, Nat.le_of_ble_eq_true rfl⟩ (recvK hK hW (al0 h 0 (by decide)) (ct0 0) rfl) rfl hl.1 rfl (Nat.le_of_ble_eq_true rfl) dL_law_1433 ⟨by omega, by omega⟩) hS (fun _ _ q => q) (fun _ q => q) (fun r1 u t H1 locs ht hvm hal1 hW hz hk hS d1 hd1 => ?_)
  subst ht
  have C0 := C1.dr d1
  have hK := hK1.dr d1
  have hZ := hZ1.dr d1
  refine lv_dstore (lv' := [(5, .double r1), (4, .int (nI i)), (3, .ref (h.2.2 30 0)), (2, .ref (h.2.2 20 0)), (1, .ref (h.2.2 0 0)), (0, .ref b)]) hx hb dL_law_1436 hl (by decide) rfl (fun ls hl => ?_)
  refine lv_aload_n hx hb dL_law_1438 rfl (lv_at hl 3 rfl) ?_
  refine va_calldD hd1 (runVD C0 hlo hK hZ hW hS (kX5_tension l lo g h _ _ _ hP2) wCO_X5_tension wML_L_153 wIM_X5_tension wSE_X5_X5_tension wIN_X5 hdX5_tension ⟨Nat.le_of_ble_eq_true rfl, Nat.le_of_ble_eq_true rfl⟩ (recvK hK hW (al20 h 20 (by decide)) (ct20 0) rfl) rfl hl.1 rfl (Nat.le_of_ble_eq_true rfl) dL_law_1439 ⟨by omega, by omega⟩) hS (fun _ _ q => q) (fun _ q => q) (fun r2 u t H1 locs ht hvm hal2 hW hz hk hS d2 hd2 => ?_)
  subst ht
  refine lv_dstore (lv' := [(7, .double r2), (5, .double r1), (4, .int (nI i)), (3, .ref (h.2.2 30 0)), (2, .ref (h.2.2 20 0)), (1, .ref (h.2.2 0 0)), (0, .ref b)]) hx hb dL_law_1442 hl (by decide) rfl (fun ls hl => ?_)
  refine lv_dload hx hb dL_law_1444 (lv_at hl 1 rfl) ?_
  refine lv_dload hx hb dL_law_1446 (lv_at hl 0 rfl) ?_
  refine lv_dcmp hx hb dL_law_1448 ?_
  rcases tens hal1 hal2 with q | ⟨q1, q2, q3⟩
  · rw [q]
    refine lv_if_eq (tgt := 1470) hx hb dL_law_1449 (by decide) (fun _ => ?_) (fun q => absurd rfl q)
    refine lv_goto (tgt := 1487) hx hb dL_law_1470 (by decide) ?_
    refine W.widen (k := cells + 300) (n := slots + 1100) (by omega) (by omega) ?_
    exact kk d2 hd2 _ _ _ hW hS (lv_sub hl [2, 3, 4, 5, 6] rfl)
  · rw [q1]
    refine lv_if_eq (tgt := 1470) hx hb dL_law_1449 (by decide) (fun q => absurd q (by decide)) (fun _ => ?_)
    refine lv_dload hx hb dL_law_1452 (lv_at hl 1 rfl) ?_
    refine lv_dload hx hb dL_law_1454 (lv_at hl 1 rfl) ?_
    refine lv_dcmp hx hb dL_law_1456 ?_
    rw [q2]
    refine lv_if_eq (tgt := 1468) hx hb dL_law_1457 (by decide) (fun q => absurd q (by decide)) (fun _ => ?_)
    refine lv_dload hx hb dL_law_1460 (lv_at hl 0 rfl) ?_
    refine lv_dload hx hb dL_law_1462 (lv_at hl 0 rfl) ?_
    refine lv_dcmp hx hb dL_law_1464 ?_
    rw [q3]
    refine lv_if_ne (tgt := 1470) hx hb dL_law_1465 (by decide) (fun _ => ?_) (fun q => absurd q (by decide))
    refine lv_goto (tgt := 1487) hx hb dL_law_1470 (by decide) ?_
    refine W.widen (k := cells + 300) (n := slots + 1100) (by omega) (by omega) ?_
    exact kk d2 hd2 _ _ _ hW hS (lv_sub hl [2, 3, 4, 5, 6] rfl)
end LAWLOOP
/-- what the pure layer owes: on every script the two answer alike, and go on alike -/
def LawOK (Inv : Nat → Nat → Nat → Sg → Prop) : Prop :=
  (∀ (T ns nb : Nat) (σ : Sg) (a1 : Int32), T < 512 → Inv T ns nb σ → ∃ (k bv : Int32) (σ1 σ2 : Sg), FL_addSpring ns nb σ a1 = some (k, σ1) ∧ FX5_addSpring (if k = 0 then ns + 1 else ns) nb σ1 a1 = some (bv, σ2) ∧ σ2.1 20 0 0 = k ∧ (k = 0 → σ2.2 30 0 0 = bv.toInt64) ∧ Inv (T + 1) (if k = 0 then ns + 1 else ns) nb σ2) ∧
  (∀ (T ns nb : Nat) (σ : Sg) (a1 : Int32) (a2 : Int32), T < 512 → Inv T ns nb σ → ∃ (k bv : Int32) (σ1 σ2 : Sg), FL_wind ns nb σ a1 a2 = some (k, σ1) ∧ FX5_wind ns nb σ1 a1 a2 = some (bv, σ2) ∧ σ2.1 20 0 0 = k ∧ (k = 0 → σ2.2 30 0 0 = bv.toInt64) ∧ Inv (T + 1) ns nb σ2) ∧
  (∀ (T ns nb : Nat) (σ : Sg) (a1 : Int32) (a2 : Int32), T < 512 → Inv T ns nb σ → (a2 = 0 ∨ a2 = 1) → ∃ (k bv : Int32) (σ1 σ2 : Sg), FL_brake ns nb σ a1 a2 = some (k, σ1) ∧ FX5_brake ns nb σ1 a1 a2 = some (bv, σ2) ∧ σ2.1 20 0 0 = k ∧ (k = 0 → σ2.2 30 0 0 = (if bv = 0 then 0 else 1)) ∧ Inv (T + 1) ns nb σ2) ∧
  (∀ (T ns nb : Nat) (σ : Sg) (a1 : Int32) (a2 : Int32) (a3 : Int32), T < 512 → Inv T ns nb σ → (a3 = 0 ∨ a3 = 1) → ∃ (k bv : Int32) (σ1 σ2 : Sg), FL_couple ns nb σ a1 a2 a3 = some (k, σ1) ∧ FX5_couple ns nb σ1 a1 a2 a3 = some (bv, σ2) ∧ σ2.1 20 0 0 = k ∧ (k = 0 → σ2.2 30 0 0 = bv.toInt64) ∧ Inv (T + 1) ns nb σ2) ∧
  (∀ (T ns nb : Nat) (σ : Sg) (a1 : Int32) (a2 : Int32), T < 512 → Inv T ns nb σ → ∃ (k bv : Int32) (σ1 σ2 : Sg), FL_spring ns nb σ a1 a2 = some (k, σ1) ∧ FX5_spring ns nb σ1 a1 a2 = some (bv, σ2) ∧ σ2.1 20 0 0 = k ∧ (k = 0 → σ2.2 30 0 0 = bv.toInt64) ∧ Inv (T + 1) ns nb σ2) ∧
  (∀ (T ns nb : Nat) (σ : Sg) (a1 : Int32) (a2 : Int32) (a3 : Int32) (a4 : Int32) (a5 : Int32), T < 512 → Inv T ns nb σ → ∃ (k bv : Int32) (σ1 σ2 : Sg), FL_addBird ns nb σ a1 a2 a3 a4 a5 = some (k, σ1) ∧ FX5_addBird ns (if k = 0 then nb + 1 else nb) σ1 a1 a2 a3 a4 a5 = some (bv, σ2) ∧ σ2.1 20 0 0 = k ∧ (k = 0 → σ2.2 30 0 0 = bv.toInt64) ∧ Inv (T + 1) ns (if k = 0 then nb + 1 else nb) σ2) ∧
  (∀ (T ns nb : Nat) (σ : Sg) (a1 : Int32) (a2 : Int32), T < 512 → Inv T ns nb σ → (a2 = 0 ∨ a2 = 1) → ∃ (k bv : Int32) (σ1 σ2 : Sg), FL_engage ns nb σ a1 a2 = some (k, σ1) ∧ FX5_engage ns nb σ1 a1 a2 = some (bv, σ2) ∧ σ2.1 20 0 0 = k ∧ (k = 0 → σ2.2 30 0 0 = (if bv = 0 then 0 else 1)) ∧ Inv (T + 1) ns nb σ2) ∧
  (∀ (T ns nb : Nat) (σ : Sg) (a1 : Int32) (a2 : Int32) (a3 : Int32), T < 512 → Inv T ns nb σ → ∃ (k bv : Int32) (σ1 σ2 : Sg), FL_pin ns nb σ a1 a2 a3 = some (k, σ1) ∧ FX5_pin ns nb σ1 a1 a2 a3 = some (bv, σ2) ∧ σ2.1 20 0 0 = k ∧ (k = 0 → σ2.2 30 0 0 = bv.toInt64) ∧ Inv (T + 1) ns nb σ2) ∧
  (∀ (T ns nb : Nat) (σ : Sg) (a1 : Int32) (a2 : Int32) (a3 : Int32), T < 512 → Inv T ns nb σ → ∃ (k bv : Int32) (σ1 σ2 : Sg), FL_tune ns nb σ a1 a2 a3 = some (k, σ1) ∧ FX5_tune ns nb σ1 a1 a2 a3 = some (bv, σ2) ∧ σ2.1 20 0 0 = k ∧ (k = 0 → σ2.2 30 0 0 = bv.toInt64) ∧ Inv (T + 1) ns nb σ2) ∧
  (∀ (T ns nb : Nat) (σ : Sg) (a1 : Int32) (a2 : Int32) (a3 : Int32) (a4 : Int32), T < 512 → Inv T ns nb σ → ∃ (k bv : Int32) (σ1 σ2 : Sg), FL_point ns nb σ a1 a2 a3 a4 = some (k, σ1) ∧ FX5_point ns nb σ1 a1 a2 a3 a4 = some (bv, σ2) ∧ σ2.1 20 0 0 = k ∧ (k = 0 → σ2.2 30 0 0 = bv.toInt64) ∧ Inv (T + 1) ns nb σ2) ∧
  (∀ (T ns nb : Nat) (σ : Sg) (a1 : Int32) (a2 : Int32), T < 512 → Inv T ns nb σ → ∃ (k bv : Int32) (σ1 σ2 : Sg), FL_bird ns nb σ a1 a2 = some (k, σ1) ∧ FX5_bird ns nb σ1 a1 a2 = some (bv, σ2) ∧ σ2.1 20 0 0 = k ∧ (k = 0 → σ2.2 30 0 0 = bv.toInt64) ∧ Inv (T + 1) ns nb σ2) ∧
  (∀ (T ns nb : Nat) (σ : Sg) (a1 : Int32) (a2 : Int32) (a3 : Int32), T < 512 → Inv T ns nb σ → ∃ (k bv : Int32) (σ1 σ2 : Sg), FL_lift ns nb σ a1 a2 a3 = some (k, σ1) ∧ FX5_lift ns nb σ1 a1 a2 a3 = some (bv, σ2) ∧ σ2.1 20 0 0 = k ∧ (k = 0 → σ2.2 30 0 0 = bv.toInt64) ∧ Inv (T + 1) ns nb σ2) ∧
  (∀ (T ns nb : Nat) (σ : Sg) (a1 : Int32), T < 512 → Inv T ns nb σ → ∃ (k bv : Int32) (σ1 σ2 : Sg), FL_run ns nb σ a1 = some (k, σ1) ∧ FX5_run ns nb σ1 a1 = some (bv, σ2) ∧ σ2.1 20 0 0 = k ∧ (k = 0 → σ2.2 30 0 0 = bv.toInt64) ∧ Inv (T + 1) ns nb σ2 ∧ kN σ2 ≤ 250) ∧
  (∀ (T ns nb : Nat) (σ : Sg) (a1 : Int32), T < 512 → Inv T ns nb σ → ∃ (k bv : Int32) (σ1 σ2 : Sg), FL_count ns nb σ a1 = some (k, σ1) ∧ FX5_count ns nb σ1 a1 = some (bv, σ2) ∧ σ2.1 20 0 0 = k ∧ (k = 0 → σ2.2 30 0 0 = bv.toInt64) ∧ Inv (T + 1) ns nb σ2) ∧
  (∀ (T ns nb : Nat) (σ : Sg) (a1 : Int32) (a2 : Int32), T < 512 → Inv T ns nb σ → ∃ (k bv : Int32) (σ1 σ2 : Sg), FL_sung ns nb σ a1 a2 = some (k, σ1) ∧ FX5_sung ns nb σ1 a1 a2 = some (bv, σ2) ∧ σ2.1 20 0 0 = k ∧ (k = 0 → σ2.2 30 0 0 = bv.toInt64) ∧ Inv (T + 1) ns nb σ2) ∧
  (∀ (T ns nb : Nat) (σ : Sg) (a1 : Int32), T < 512 → Inv T ns nb σ → ∃ (k bv : Int32) (σ1 σ2 : Sg), FL_chord ns nb σ a1 = some (k, σ1) ∧ FX5_chord ns nb σ1 a1 = some (bv, σ2) ∧ σ2.1 20 0 0 = k ∧ (k = 0 → σ2.2 30 0 0 = bv.toInt64) ∧ Inv (T + 1) ns nb σ2) ∧
  (∀ (T ns nb : Nat) (σ : Sg), T < 512 → Inv T ns nb σ → ∃ (r : Int32) (σ1 σ2 : Sg), FX4_longest ns nb σ = some (r, σ1) ∧ FX5_longest ns nb σ1 = some (r, σ2) ∧ Inv (T + 1) ns nb σ2) ∧
  (∀ (T ns nb : Nat) (σ : Sg), T < 512 → Inv T ns nb σ → ∃ (r : Int32) (σ1 σ2 : Sg), FX4_emptySongs ns nb σ = some (r, σ1) ∧ FX5_emptySongs ns nb σ1 = some (r, σ2) ∧ Inv (T + 1) ns nb σ2) ∧
  (∀ (T ns nb : Nat) (σ : Sg) (a1 : Int32), T < 512 → Inv T ns nb σ → ∃ (k bv : Int32) (σ1 σ2 : Sg), FL_runsDown ns nb σ a1 = some (k, σ1) ∧ FX5_runsDown ns nb σ1 a1 = some (bv, σ2) ∧ σ2.1 20 0 0 = k ∧ (k = 0 → σ2.2 30 0 0 = bv.toInt64) ∧ Inv (T + 1) ns nb σ2 ∧ kN σ2 ≤ 250) ∧
  (∀ (T ns nb : Nat) (σ : Sg), T < 512 → Inv T ns nb σ → ∃ (x : UInt64) (σ1 σ2 : Sg), FX4_tension ns nb σ = some (x, σ1) ∧ FX5_tension ns nb σ1 = some (x, σ2) ∧ Inv (T + 1) ns nb σ2) ∧
  (∀ (T ns nb : Nat) (σ : Sg), T < 512 → Inv T ns nb σ → ∃ (r : Int64) (σ1 σ2 : Sg), FX4_digest ns nb σ = some (r, σ1) ∧ FX5_digest ns nb σ1 = some (r, σ2) ∧ Inv (T + 1) ns nb σ2) ∧
  (∀ (T ns nb : Nat) (σ : Sg), Inv T ns nb σ → Inv (T + 1) ns nb σ)
theorem bz (x : Int32) : (if x = 0 then (0 : Int32) else 1) = 0 ∨ (if x = 0 then (0 : Int32) else 1) = 1 := by
  by_cases h : x = 0
  · exact Or.inl (if_pos h)
  · exact Or.inr (if_neg h)
theorem exitI {L i : Nat} (hL : L ≤ 3072) (hi : i ≤ L) : nI L - 6 < nI i ↔ L < i + 6 := by
  rw [Int32.lt_iff_toInt_lt, nI_toInt (by omega)]
  by_cases h6 : 6 ≤ L
  · have e : nI L - 6 = nI (L - 6) := by
      have e1 : nI (L - 6) + nI 6 = nI L := by rw [nI_add]; congr 1; omega
      have e2 : (6 : Int32) = nI 6 := rfl
      rw [← e1, e2, Int32.add_sub_cancel]
    rw [e, nI_toInt (by omega)]
    omega
  · have hlt : (nI L - 6).toInt < 0 := by
      have : L = 0 ∨ L = 1 ∨ L = 2 ∨ L = 3 ∨ L = 4 ∨ L = 5 := by omega
      rcases this with rfl | rfl | rfl | rfl | rfl | rfl <;> decide
    omega
set_option maxHeartbeats 4000000 in
theorem law_loop {Inv : Nat → Nat → Nat → Sg → Prop} (OK : LawOK Inv) {p : Program} {l : Launch} {e : Env} {s : State} {m : MethodId} {args : Array Value} {below : List Frame} {meth : Method} {c : Code} {Q : State → Prop} {lo b L : Nat} {xs : Nat → Int32} {g : Gx} (C1 : CallFix p m c cL_law 9 s args wB RL) (hnt : l.stackTraces = false) (hlo : lo ≤ s.heap.size) (hK1 : KW g s) (hZ1 : ZW lo s s.heap) (hX : va_X b L xs s s.heap) (hbl : b < s.heap.size) (hbA : ¬ Ax lo b) (hL : L ≤ 3072)
    (kend : ∀ (d0 : Drawn) (H : Heap) (locs : List Loc) (ls : Array Slot), s.drawn.sameBut d0 lw_cs → va_S (Ax lo) s.heap H locs → W p l e room_1 (s.setDrawn d0) m args below meth c H locs 153800 569300 Q (F0 m 1493 ls [])) :
    ∀ (n T : Nat), 6 * T ≤ L → L < 6 * (T + n) → ∀ (d0 : Drawn), s.drawn.sameBut d0 lw_cs → ∀ (h : Sh) (σ : Sg) (H : Heap) (locs : List Loc) (ls : Array Slot), Inv T h.1 h.2.1 σ → FW g h (Ax lo) σ H → va_S (Ax lo) s.heap H locs → lv_has ls 9 [(4, .int (nI (6 * T))), (3, .ref (h.2.2 30 0)), (2, .ref (h.2.2 20 0)), (1, .ref (h.2.2 0 0)), (0, .ref b)] → W p l e room_1 (s.setDrawn d0) m args below meth c H locs (100 + 300 * T) (6000 + 1100 * T) Q (F0 m 23 ls []) := by
  obtain ⟨o_addSpring, o_wind, o_brake, o_couple, o_spring, o_addBird, o_engage, o_pin, o_tune, o_point, o_bird, o_lift, o_run, o_count, o_sung, o_chord, o_longest, o_emptySongs, o_runsDown, o_tension, o_digest, o_rest⟩ := OK
  intro n
  induction n with
  | zero => intro T h1 h2; omega
  | succ n ih =>
    intro T hT hn d0 hd0 h σ H locs ls hI hW hS hl
    have hx := C1.1
    have hb := C1.2.1
    have C0 := C1.dr d0
    have hK := hK1.dr d0
    have hZ := hZ1.dr d0
    refine lv_iload hx hb dL_law_23 (lv_at hl 0 rfl) ?_
    refine lv_aload_n hx hb dL_law_25 rfl (lv_at hl 4 rfl) ?_
    refine va_slen hx hb hX hbl hbA hS dL_law_26 ?_
    refine lv_bipush (v := 6) hx hb dL_law_27 (by decide) ?_
    refine lv_isub hx hb dL_law_29 ?_
    refine lv_icmp_gt (tgt := 1493) hx hb dL_law_30 (by decide) (fun c1 => ?_) (fun c1 => ?_)
    · refine W.widen (k := 153800) (n := 569300) (by omega) (by omega) ?_
      exact kend d0 H locs ls hd0 hS
    · have h6 : 6 * T + 6 ≤ L := by
        apply Nat.le_of_not_lt
        intro q
        exact c1 ((exitI hL hT).mpr q)
      have hTl : T < 512 := by omega
      have hcl : 100 + 300 * T + 300 ≤ room_1.cells := by show 100 + 300 * T + 300 ≤ 601024; omega
      have hsl : 6000 + 1100 * T + 1100 ≤ room_1.slots := by show 6000 + 1100 * T + 1100 ≤ 7293034; omega
      have nx : ∀ (d1 : Drawn), s.drawn.sameBut d1 lw_cs → ∀ (h' : Sh) (σ' : Sg) (H1 : Heap) (locs1 : List Loc) (ls1 : Array Slot), Inv (T + 1) h'.1 h'.2.1 σ' → FW g h' (Ax lo) σ' H1 → va_S (Ax lo) s.heap H1 locs1 → lv_has ls1 9 [(4, .int (nI (6 * T))), (3, .ref (h'.2.2 30 0)), (2, .ref (h'.2.2 20 0)), (1, .ref (h'.2.2 0 0)), (0, .ref b)] → W p l e room_1 (s.setDrawn d1) m args below meth c H1 locs1 (100 + 300 * T + 300) (6000 + 1100 * T + 1100) Q (F0 m 1487 ls1 []) := by
        intro d1 hd1 h' σ' H1 locs1 ls1 hI1 hW1 hS1 hl1
        have ev : nI (6 * T) + 6 = nI (6 * (T + 1)) := by
          have e2 : (6 : Int32) = nI 6 := rfl
          rw [e2, nI_add]; congr 1
        refine lv_iinc (v := nI (6 * (T + 1))) (lv' := [(4, .int (nI (6 * (T + 1)))), (3, .ref (h'.2.2 30 0)), (2, .ref (h'.2.2 20 0)), (1, .ref (h'.2.2 0 0)), (0, .ref b)]) hx hb dL_law_1487 hl1 (k := 0) rfl ev (by decide) rfl (fun ls hl => ?_)
        refine lv_goto (tgt := 23) hx hb dL_law_1490 (by decide) ?_
        exact W.cs (by omega) (by omega) (ih (T + 1) (by omega) (by omega) d1 hd1 h' σ' H1 locs1 ls hI1 hW1 hS1 hl)
      refine lv_aload_n hx hb dL_law_33 rfl (lv_at hl 4 rfl) ?_
      refine lv_iload hx hb dL_law_34 (lv_at hl 0 rfl) ?_
      refine rd0 C0 hX hbl hbA hS h6 hL dL_law_36 ?_
      refine lv_bipush (v := 31) hx hb dL_law_37 (by decide) ?_
      refine lv_iand hx hb dL_law_39 ?_
      generalize xs (6 * T) &&& 31 = x
      by_cases c_0 : x = 0
      · refine lv_tableIn (tgt := 140) (off := 100) hx hb dL_law_40 (by rw [c_0]; decide) (by rw [c_0]; decide) (by rw [c_0]; decide) (by decide) ?_
        obtain ⟨k, bv, σ1, σ2, p1, p2, p3, p4, p5⟩ := o_addSpring T h.1 h.2.1 σ (xs (6 * T + 1)) hTl hI
        exact sL_addSpring C0 hnt hlo hK hZ hX hbl hbA h6 hL hcl hsl hW hS hl p1 p2 p3 p4 (fun h' e1 e2 _ _ _ H1 locs1 ls1 a1 a2 a3 => nx d0 hd0 h' σ2 H1 locs1 ls1 (by rw [e1, e2]; exact p5) a1 a2 a3)
      by_cases c_1 : x = 1
      · refine lv_tableIn (tgt := 196) (off := 156) hx hb dL_law_40 (by rw [c_1]; decide) (by rw [c_1]; decide) (by rw [c_1]; decide) (by decide) ?_
        obtain ⟨k, bv, σ1, σ2, p1, p2, p3, p4, p5⟩ := o_wind T h.1 h.2.1 σ (xs (6 * T + 1)) (xs (6 * T + 2)) hTl hI
        exact sL_wind C0 hnt hlo hK hZ hX hbl hbA h6 hL hcl hsl hW hS hl p1 p2 p3 p4 (fun H1 locs1 ls1 a1 a2 a3 => nx d0 hd0 h σ2 H1 locs1 ls1 p5 a1 a2 a3)
      by_cases c_2 : x = 2
      · refine lv_tableIn (tgt := 264) (off := 224) hx hb dL_law_40 (by rw [c_2]; decide) (by rw [c_2]; decide) (by rw [c_2]; decide) (by decide) ?_
        obtain ⟨k, bv, σ1, σ2, p1, p2, p3, p4, p5⟩ := o_brake T h.1 h.2.1 σ (xs (6 * T + 1)) (if xs (6 * T + 2) = 0 then 0 else 1) hTl hI (bz _)
        exact sL_brake C0 hnt hlo hK hZ hX hbl hbA h6 hL hcl hsl hW hS hl p1 p2 p3 p4 (fun H1 locs1 ls1 a1 a2 a3 => nx d0 hd0 h σ2 H1 locs1 ls1 p5 a1 a2 a3)
      by_cases c_3 : x = 3
      · refine lv_tableIn (tgt := 355) (off := 315) hx hb dL_law_40 (by rw [c_3]; decide) (by rw [c_3]; decide) (by rw [c_3]; decide) (by decide) ?_
        obtain ⟨k, bv, σ1, σ2, p1, p2, p3, p4, p5⟩ := o_couple T h.1 h.2.1 σ (xs (6 * T + 1)) (xs (6 * T + 2)) (if xs (6 * T + 3) = 0 then 0 else 1) hTl hI (bz _)
        exact sL_couple C0 hnt hlo hK hZ hX hbl hbA h6 hL hcl hsl hW hS hl p1 p2 p3 p4 (fun H1 locs1 ls1 a1 a2 a3 => nx d0 hd0 h σ2 H1 locs1 ls1 p5 a1 a2 a3)
      by_cases c_4 : x = 4
      · refine lv_tableIn (tgt := 451) (off := 411) hx hb dL_law_40 (by rw [c_4]; decide) (by rw [c_4]; decide) (by rw [c_4]; decide) (by decide) ?_
        obtain ⟨k, bv, σ1, σ2, p1, p2, p3, p4, p5⟩ := o_spring T h.1 h.2.1 σ (xs (6 * T + 1)) (xs (6 * T + 2)) hTl hI
        exact sL_spring C0 hnt hlo hK hZ hX hbl hbA h6 hL hcl hsl hW hS hl p1 p2 p3 p4 (fun H1 locs1 ls1 a1 a2 a3 => nx d0 hd0 h σ2 H1 locs1 ls1 p5 a1 a2 a3)
      by_cases c_5 : x = 5
      · refine lv_tableIn (tgt := 519) (off := 479) hx hb dL_law_40 (by rw [c_5]; decide) (by rw [c_5]; decide) (by rw [c_5]; decide) (by decide) ?_
        obtain ⟨k, bv, σ1, σ2, p1, p2, p3, p4, p5⟩ := o_addBird T h.1 h.2.1 σ (xs (6 * T + 1)) (xs (6 * T + 2)) (xs (6 * T + 3)) (xs (6 * T + 4)) (xs (6 * T + 5)) hTl hI
        exact sL_addBird C0 hnt hlo hK hZ hX hbl hbA h6 hL hcl hsl hW hS hl p1 p2 p3 p4 (fun h' e1 e2 _ _ _ H1 locs1 ls1 a1 a2 a3 => nx d0 hd0 h' σ2 H1 locs1 ls1 (by rw [e1, e2]; exact p5) a1 a2 a3)
      by_cases c_6 : x = 6
      · refine lv_tableIn (tgt := 623) (off := 583) hx hb dL_law_40 (by rw [c_6]; decide) (by rw [c_6]; decide) (by rw [c_6]; decide) (by decide) ?_
        obtain ⟨k, bv, σ1, σ2, p1, p2, p3, p4, p5⟩ := o_engage T h.1 h.2.1 σ (xs (6 * T + 1)) (if xs (6 * T + 2) = 0 then 0 else 1) hTl hI (bz _)
        exact sL_engage C0 hnt hlo hK hZ hX hbl hbA h6 hL hcl hsl hW hS hl p1 p2 p3 p4 (fun H1 locs1 ls1 a1 a2 a3 => nx d0 hd0 h σ2 H1 locs1 ls1 p5 a1 a2 a3)
      by_cases c_7 : x = 7
      · refine lv_tableIn (tgt := 714) (off := 674) hx hb dL_law_40 (by rw [c_7]; decide) (by rw [c_7]; decide) (by rw [c_7]; decide) (by decide) ?_
        obtain ⟨k, bv, σ1, σ2, p1, p2, p3, p4, p5⟩ := o_pin T h.1 h.2.1 σ (xs (6 * T + 1)) (xs (6 * T + 2)) (xs (6 * T + 3)) hTl hI
        exact sL_pin C0 hnt hlo hK hZ hX hbl hbA h6 hL hcl hsl hW hS hl p1 p2 p3 p4 (fun H1 locs1 ls1 a1 a2 a3 => nx d0 hd0 h σ2 H1 locs1 ls1 p5 a1 a2 a3)
      by_cases c_8 : x = 8
      · refine lv_tableIn (tgt := 794) (off := 754) hx hb dL_law_40 (by rw [c_8]; decide) (by rw [c_8]; decide) (by rw [c_8]; decide) (by decide) ?_
        obtain ⟨k, bv, σ1, σ2, p1, p2, p3, p4, p5⟩ := o_tune T h.1 h.2.1 σ (xs (6 * T + 1)) (xs (6 * T + 2)) (xs (6 * T + 3)) hTl hI
        exact sL_tune C0 hnt hlo hK hZ hX hbl hbA h6 hL hcl hsl hW hS hl p1 p2 p3 p4 (fun H1 locs1 ls1 a1 a2 a3 => nx d0 hd0 h σ2 H1 locs1 ls1 p5 a1 a2 a3)
      by_cases c_9 : x = 9
      · refine lv_tableIn (tgt := 874) (off := 834) hx hb dL_law_40 (by rw [c_9]; decide) (by rw [c_9]; decide) (by rw [c_9]; decide) (by decide) ?_
        obtain ⟨k, bv, σ1, σ2, p1, p2, p3, p4, p5⟩ := o_point T h.1 h.2.1 σ (xs (6 * T + 1)) (xs (6 * T + 2)) (xs (6 * T + 3)) (xs (6 * T + 4)) hTl hI
        exact sL_point C0 hnt hlo hK hZ hX hbl hbA h6 hL hcl hsl hW hS hl p1 p2 p3 p4 (fun H1 locs1 ls1 a1 a2 a3 => nx d0 hd0 h σ2 H1 locs1 ls1 p5 a1 a2 a3)
      by_cases c_10 : x = 10
      · refine lv_tableIn (tgt := 966) (off := 926) hx hb dL_law_40 (by rw [c_10]; decide) (by rw [c_10]; decide) (by rw [c_10]; decide) (by decide) ?_
        obtain ⟨k, bv, σ1, σ2, p1, p2, p3, p4, p5⟩ := o_bird T h.1 h.2.1 σ (xs (6 * T + 1)) (xs (6 * T + 2)) hTl hI
        exact sL_bird C0 hnt hlo hK hZ hX hbl hbA h6 hL hcl hsl hW hS hl p1 p2 p3 p4 (fun H1 locs1 ls1 a1 a2 a3 => nx d0 hd0 h σ2 H1 locs1 ls1 p5 a1 a2 a3)
      by_cases c_11 : x = 11
      · refine lv_tableIn (tgt := 1034) (off := 994) hx hb dL_law_40 (by rw [c_11]; decide) (by rw [c_11]; decide) (by rw [c_11]; decide) (by decide) ?_
        obtain ⟨k, bv, σ1, σ2, p1, p2, p3, p4, p5⟩ := o_lift T h.1 h.2.1 σ (xs (6 * T + 1)) (xs (6 * T + 2)) (xs (6 * T + 3)) hTl hI
        exact sL_lift C0 hnt hlo hK hZ hX hbl hbA h6 hL hcl hsl hW hS hl p1 p2 p3 p4 (fun H1 locs1 ls1 a1 a2 a3 => nx d0 hd0 h σ2 H1 locs1 ls1 p5 a1 a2 a3)
      by_cases c_12 : x = 12
      · refine lv_tableIn (tgt := 1114) (off := 1074) hx hb dL_law_40 (by rw [c_12]; decide) (by rw [c_12]; decide) (by rw [c_12]; decide) (by decide) ?_
        obtain ⟨k, bv, σ1, σ2, p1, p2, p3, p4, p5, p6⟩ := o_run T h.1 h.2.1 σ (xs (6 * T + 1)) hTl hI
        exact sL_run C0 hnt hlo hK hZ hX hbl hbA h6 hL hcl hsl hW hS hl p1 p2 p3 p4 p6 (fun H1 locs1 ls1 a1 a2 a3 => nx d0 hd0 h σ2 H1 locs1 ls1 p5 a1 a2 a3)
      by_cases c_13 : x = 13
      · refine lv_tableIn (tgt := 1170) (off := 1130) hx hb dL_law_40 (by rw [c_13]; decide) (by rw [c_13]; decide) (by rw [c_13]; decide) (by decide) ?_
        obtain ⟨k, bv, σ1, σ2, p1, p2, p3, p4, p5⟩ := o_count T h.1 h.2.1 σ (xs (6 * T + 1)) hTl hI
        exact sL_count C0 hnt hlo hK hZ hX hbl hbA h6 hL hcl hsl hW hS hl p1 p2 p3 p4 (fun H1 locs1 ls1 a1 a2 a3 => nx d0 hd0 h σ2 H1 locs1 ls1 p5 a1 a2 a3)
      by_cases c_14 : x = 14
      · refine lv_tableIn (tgt := 1226) (off := 1186) hx hb dL_law_40 (by rw [c_14]; decide) (by rw [c_14]; decide) (by rw [c_14]; decide) (by decide) ?_
        obtain ⟨k, bv, σ1, σ2, p1, p2, p3, p4, p5⟩ := o_sung T h.1 h.2.1 σ (xs (6 * T + 1)) (xs (6 * T + 2)) hTl hI
        exact sL_sung C0 hnt hlo hK hZ hX hbl hbA h6 hL hcl hsl hW hS hl p1 p2 p3 p4 (fun H1 locs1 ls1 a1 a2 a3 => nx d0 hd0 h σ2 H1 locs1 ls1 p5 a1 a2 a3)
      by_cases c_15 : x = 15
      · refine lv_tableIn (tgt := 1294) (off := 1254) hx hb dL_law_40 (by rw [c_15]; decide) (by rw [c_15]; decide) (by rw [c_15]; decide) (by decide) ?_
        obtain ⟨k, bv, σ1, σ2, p1, p2, p3, p4, p5⟩ := o_chord T h.1 h.2.1 σ (xs (6 * T + 1)) hTl hI
        exact sL_chord C0 hnt hlo hK hZ hX hbl hbA h6 hL hcl hsl hW hS hl p1 p2 p3 p4 (fun H1 locs1 ls1 a1 a2 a3 => nx d0 hd0 h σ2 H1 locs1 ls1 p5 a1 a2 a3)
      by_cases c_16 : x = 16
      · refine lv_tableIn (tgt := 1350) (off := 1310) hx hb dL_law_40 (by rw [c_16]; decide) (by rw [c_16]; decide) (by rw [c_16]; decide) (by decide) ?_
        obtain ⟨r, σ1, σ2, p1, p2, p3⟩ := o_longest T h.1 h.2.1 σ hTl hI
        exact sL_longest C0 hnt hlo hK hZ hX hbl hbA h6 hL hcl hsl hW hS hl p1 p2 (fun H1 locs1 ls1 a1 a2 a3 => nx d0 hd0 h σ2 H1 locs1 ls1 p3 a1 a2 a3)
      by_cases c_17 : x = 17
      · refine lv_tableIn (tgt := 1363) (off := 1323) hx hb dL_law_40 (by rw [c_17]; decide) (by rw [c_17]; decide) (by rw [c_17]; decide) (by decide) ?_
        obtain ⟨r, σ1, σ2, p1, p2, p3⟩ := o_emptySongs T h.1 h.2.1 σ hTl hI
        exact sL_emptySongs C0 hnt hlo hK hZ hX hbl hbA h6 hL hcl hsl hW hS hl p1 p2 (fun H1 locs1 ls1 a1 a2 a3 => nx d0 hd0 h σ2 H1 locs1 ls1 p3 a1 a2 a3)
      by_cases c_18 : x = 18
      · refine lv_tableIn (tgt := 1376) (off := 1336) hx hb dL_law_40 (by rw [c_18]; decide) (by rw [c_18]; decide) (by rw [c_18]; decide) (by decide) ?_
        obtain ⟨k, bv, σ1, σ2, p1, p2, p3, p4, p5, p6⟩ := o_runsDown T h.1 h.2.1 σ (xs (6 * T + 1)) hTl hI
        exact sL_runsDown C0 hnt hlo hK hZ hX hbl hbA h6 hL hcl hsl hW hS hl p1 p2 p3 p4 p6 (fun H1 locs1 ls1 a1 a2 a3 => nx d0 hd0 h σ2 H1 locs1 ls1 p5 a1 a2 a3)
      by_cases c_19 : x = 19
      · refine lv_tableIn (tgt := 1432) (off := 1392) hx hb dL_law_40 (by rw [c_19]; decide) (by rw [c_19]; decide) (by rw [c_19]; decide) (by decide) ?_
        obtain ⟨x, σ1, σ2, p1, p2, p3⟩ := o_tension T h.1 h.2.1 σ hTl hI
        exact sL_tension hd0 C1 hlo hK1 hZ1 hcl hsl hW hS hl p1 p2 (fun d1 hd1 H1 locs1 ls1 a1 a2 a3 => nx d1 hd1 h σ2 H1 locs1 ls1 p3 a1 a2 a3)
      by_cases c_20 : x = 20
      · refine lv_tableIn (tgt := 1473) (off := 1433) hx hb dL_law_40 (by rw [c_20]; decide) (by rw [c_20]; decide) (by rw [c_20]; decide) (by decide) ?_
        obtain ⟨r, σ1, σ2, p1, p2, p3⟩ := o_digest T h.1 h.2.1 σ hTl hI
        exact sL_digest C0 hnt hlo hK hZ hX hbl hbA h6 hL hcl hsl hW hS hl p1 p2 (fun H1 locs1 ls1 a1 a2 a3 => nx d0 hd0 h σ2 H1 locs1 ls1 p3 a1 a2 a3)
      have t0 := lv_neT c_0 (a := 0) (by decide)
      have t1 := lv_neT c_1 (a := 1) (by decide)
      have t2 := lv_neT c_2 (a := 2) (by decide)
      have t3 := lv_neT c_3 (a := 3) (by decide)
      have t4 := lv_neT c_4 (a := 4) (by decide)
      have t5 := lv_neT c_5 (a := 5) (by decide)
      have t6 := lv_neT c_6 (a := 6) (by decide)
      have t7 := lv_neT c_7 (a := 7) (by decide)
      have t8 := lv_neT c_8 (a := 8) (by decide)
      have t9 := lv_neT c_9 (a := 9) (by decide)
      have t10 := lv_neT c_10 (a := 10) (by decide)
      have t11 := lv_neT c_11 (a := 11) (by decide)
      have t12 := lv_neT c_12 (a := 12) (by decide)
      have t13 := lv_neT c_13 (a := 13) (by decide)
      have t14 := lv_neT c_14 (a := 14) (by decide)
      have t15 := lv_neT c_15 (a := 15) (by decide)
      have t16 := lv_neT c_16 (a := 16) (by decide)
      have t17 := lv_neT c_17 (a := 17) (by decide)
      have t18 := lv_neT c_18 (a := 18) (by decide)
      have t19 := lv_neT c_19 (a := 19) (by decide)
      have t20 := lv_neT c_20 (a := 20) (by decide)
      refine lv_tableOut (tgt := 1487) hx hb dL_law_40 (by omega) (by decide) ?_
      refine W.widen (k := 100 + 300 * T + 300) (n := 6000 + 1100 * T + 1100) (by omega) (by omega) ?_
      exact nx d0 hd0 h σ H locs ls (o_rest T h.1 h.2.1 σ hI) hW hS hl
