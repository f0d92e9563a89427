/-! TENSION: both may draw which NaN they answer -/
theorem KW.dr {g : Gx} {U : State} (d : Drawn) (h : KW g U) : KW g (U.setDrawn d) :=
  ⟨va_K.moved (u := U) (U := U.setDrawn d) (Vm.Alike.refl U.vm) h.1, fun q hq => va_Nw.same (u := U) (U := U.setDrawn d) rfl rfl (h.2.1 q hq), fun q hq => vk_R.same (u := U) (U := U.setDrawn d) rfl (h.2.2.1 q hq), fun E hE => va_Nw.same (u := U) (U := U.setDrawn d) rfl rfl (h.2.2.2.1 E hE), fun E hE E' hE' hn => va_Nc.moved (u := U) (U := U.setDrawn d) (Vm.Alike.refl U.vm) (h.2.2.2.2.1 E hE E' hE' hn), fun x hx => va_Nw.same (u := U) (U := U.setDrawn d) rfl rfl (h.2.2.2.2.2.1 x hx), va_Nw.same (u := U) (U := U.setDrawn d) rfl rfl h.2.2.2.2.2.2.1, va_AO.moved (u := U) (U := U.setDrawn d) (Vm.Alike.refl U.vm) h.2.2.2.2.2.2.2.1, va_AO.moved (u := U) (U := U.setDrawn d) (Vm.Alike.refl U.vm) h.2.2.2.2.2.2.2.2.1, va_AO.moved (u := U) (U := U.setDrawn d) (Vm.Alike.refl U.vm) h.2.2.2.2.2.2.2.2.2⟩
theorem ZW.dr {lo : Nat} {U : State} {H : Heap} (d : Drawn) (h : ZW lo U H) : ZW lo (U.setDrawn d) H :=
  ⟨vx_Zq.moved (u := U) (U := U.setDrawn d) (Vm.Alike.refl U.vm) h.1, vx_Zq.moved (u := U) (U := U.setDrawn d) (Vm.Alike.refl U.vm) h.2⟩
theorem CallFix.dr {p : Program} {m : MethodId} {c : Code} {cc : ByteArray} {nL : Nat} {s : State} {args : Array Value} {ws : List Cond} {own : String} (d : Drawn) (C0 : CallFix p m c cc nL s args ws own) : CallFix p m c cc nL (s.setDrawn d) args ws own :=
  ⟨C0.1, C0.2.1, C0.2.2.1, C0.2.2.2.1, dr_words C0.2.2.2.2 d⟩
section TEN
variable {p : Program} {l : Launch} {e : Env} {R : Room} {s : State} {m : MethodId} {args : Array Value} {below : List Frame} {meth : Method} {c : Code} {H : Heap} {locs : List Loc} {cells slots : Nat} {Q : State → Prop}
variable {cc bytes : ByteArray} {pc nL maxL index n lo mc ms fr lw : Nat} {ls : Array Slot} {rest st0 As : List Value} {own C : String} {g : Gx} {h : Sh} {σ σ1 : Sg} {y : MethodName} {ret : Option FieldType} {b : Nat} {Qc : Array Value → State → Outcome → State → Prop}
theorem ofBD {av : List Value} (hy : plainName y.cls = true) (hyo : y.cls = own)
    (body : ∀ (p : Program) (e : Env) (s : State) (m : MethodId) (below : List Frame) (meth : Method) (c : Code), CallFix p m c cc maxL s av.toArray wB own → meth.sig.returnType = ret → meth.locks = false → lo ≤ s.heap.size → KW g s → ZW lo s s.heap → FW g h (Ax lo) σ s.heap → va_S (Ax lo) s.heap s.heap [] → ∀ ls : Array Slot, lv_has ls maxL (lv_args 0 av) → s.drawn.sameBut s.drawn lw_cs →
      W p l e { frames := fr, cells := mc, slots := ms, locals := lw } (s.setDrawn s.drawn) m av.toArray below meth c s.heap [] 0 0 (MQD lw_cs below Qc av.toArray s mc ms (Ax lo)) (F0 m 0 ls [])) (hlen : (lg_sl av).length ≤ maxL) :
    MetD lw_cs l y (ws_ y cc maxL ret) { frames := fr, cells := mc, slots := ms, locals := lw } (va_Pc av (WD lo g h σ)) Qc mc ms (Ax lo) := by
  refine MetD.ofW (cc := cc) (maxL := maxL) (ret := ret) hy rfl ?_
  intro p e s m args below meth c s₁ B hml hv hd0
  obtain ⟨rfl, hlo, hW, hK, hZ⟩ := hv
  have hts := atoms_spec (ws := ws_ y cc maxL ret) B.pre
  have hown : s.vm.findClass own = some m.cls := hyo ▸ findClass_of_methodNamed B.named
  rw [lg_entry_eq]
  exact body p e s m below meth c ⟨B.exec, B.bytes, hml, hown, fun w hw => hts w (List.mem_cons_of_mem _ hw)⟩ B.returns B.notSynchronized hlo hK hZ hW va_S.rf _ (lv_entry av hlen) hd0
theorem retD {x r : UInt64} {d1 : Drawn} (hd1 : s.drawn.sameBut d1 lw_cs) (C0 : CallFix p m c cc nL s args wB own) (hr : meth.sig.returnType = some .double) (hlk : meth.locks = false) (hal : alike64 r x = true) (hW : FW g h (Ax lo) σ1 H) (hS : va_S (Ax lo) s.heap H locs) (hdg : decode cc pc = .ok (.dreturn, 1)) :
    W p l e R (s.setDrawn d1) m args below meth c H locs cells slots (MQD lw_cs below (va_Qd (fun (r' : UInt64) (_ : Unit) => alike64 r' x = true) (fun _ t => FW g h (Ax lo) σ1 t.heap) (Ax lo)) args s cells slots (Ax lo)) (F0 m pc ls [.double r]) := by
  refine W.endD hd1 ?_
  exact W.dret C0.1 C0.2.1 hr (fun t ht hw => ⟨⟨r, (), rfl, hal, by subst ht; exact hW⟩, hS.F ht⟩) hS.2.2 hdg hlk
end TEN
def FX4_tension (ns nb : Nat) (σ : Sg) : Option (UInt64 × Sg) :=
  if 0 < σ.1 0 0 3 then ((FX4_heldByAll ns nb σ).bind fun z => some (FP.ddiv (FP.i2d z.1) (FP.i2d (1000 * z.2.1 0 0 3)), z.2)) else some (FP.dconst0, σ)
set_option maxHeartbeats 4000000 in
theorem kX4_tension (l : Launch) (lo : Nat) (g : Gx) (h : Sh) (σ : Sg) (x : UInt64) (σ1 : Sg) (hF : FX4_tension h.1 h.2.1 σ = some (x, σ1)) : MetD lw_cs l yX4_tension (ws_ yX4_tension cX4_tension 1 (some .double)) { frames := 1, cells := 0, slots := 0, locals := 25 } (va_Pc [.ref (h.2.2 0 0)] (WD lo g h σ)) (va_Qd (fun (r' : UInt64) (_ : Unit) => alike64 r' x = true) (fun _ t => FW g h (Ax lo) σ1 t.heap) (Ax lo)) 0 0 (Ax lo) := by
  refine ofBD (own := RX4) (by decide +kernel) rfl (fun p e s m below meth c C1 hr hlk hlo hK1 hZ1 hW hS ls hl hd0 => ?_) (Nat.le_of_ble_eq_true rfl)
  have C0 := C1.dr s.drawn
  have hK := hK1.dr s.drawn
  have hZ := hZ1.dr s.drawn
  have hx := C0.1
  have hb := C0.2.1
  have hl : lv_has ls 1 [(0, .ref (h.2.2 0 0))] := hl
  unfold FX4_tension at hF
  refine lv_aload_n hx hb dX4_tension_0 rfl (lv_at hl 0 rfl) ?_
  refine get0 C0 hK hW 0 (al0 h 0 (by decide)) 3 (by decide) wFL_X4_39 rfl rfl dX4_tension_1 ?_
  refine lv_if_gt (tgt := 9) hx hb dX4_tension_4 (by decide) (fun c1 => ?_) (fun c1 => ?_)
  · rw [if_pos c1] at hF
    obtain ⟨z, hz, hF⟩ := bnd hF
    refine lv_aload_n hx hb dX4_tension_9 rfl (lv_at hl 0 rfl) ?_
    refine inI (runV C0 hlo hK hZ hW hS (kX4_heldByAll l lo g h _   _ _ hz) wCO_X4_heldByAll wML_X4_240 wIM_X4_heldByAll wSE_X4_X4_heldByAll wIN_X4 hdX4_heldByAll ⟨Nat.le_of_ble_eq_true rfl, Nat.le_of_ble_eq_true rfl⟩ (recvK hK hW (al0 h 0 (by decide)) (ct0 0) rfl) rfl hl.1 rfl (Nat.le_of_ble_eq_true rfl) dX4_tension_10 ⟨Nat.le_of_ble_eq_true rfl, Nat.le_of_ble_eq_true rfl⟩) hS (fun H locs hW hS => ?_)
    refine lv_i2d hx hb dX4_tension_13 ?_
    refine lv_sipush (v := 1000) hx hb dX4_tension_14 (by decide) ?_
    refine lv_aload_n hx hb dX4_tension_17 rfl (lv_at hl 0 rfl) ?_
    refine get0 C0 hK hW 0 (al0 h 0 (by decide)) 3 (by decide) wFL_X4_39 rfl rfl dX4_tension_18 ?_
    refine lv_imul hx hb dX4_tension_21 ?_
    refine lv_i2d hx hb dX4_tension_22 ?_
    refine lv_ddiv_any hd0 lw_bits hx hb dX4_tension_23 (fun r d1 hal hd1 => ?_)
    cases hF
    exact retD hd1 C1 hr hlk hal hW hS dX4_tension_24
  · rw [if_neg c1] at hF
    refine lv_dconst0 hx hb dX4_tension_7 ?_
    cases hF
    exact retD hd0 C1 hr hlk (alike64_refl _) hW hS dX4_tension_8
def FX5_tension (ns nb : Nat) (σ : Sg) : Option (UInt64 × Sg) :=
  if (sI σ 20 0 0 0).1 20 0 2 = 0 then some (FP.dconst0, sI σ 20 0 0 0) else ((FX5_heldByAll ns nb (sI σ 20 0 0 0)).bind fun z => some (FP.ddiv (FP.i2d z.1) (FP.i2d (1000 * z.2.1 20 0 2)), z.2))
set_option maxHeartbeats 4000000 in
theorem kX5_tension (l : Launch) (lo : Nat) (g : Gx) (h : Sh) (σ : Sg) (x : UInt64) (σ1 : Sg) (hF : FX5_tension h.1 h.2.1 σ = some (x, σ1)) : MetD lw_cs l yX5_tension (ws_ yX5_tension cX5_tension 1 (some .double)) { frames := 2, cells := 0, slots := 0, locals := 44 } (va_Pc [.ref (h.2.2 20 0)] (WD lo g h σ)) (va_Qd (fun (r' : UInt64) (_ : Unit) => alike64 r' x = true) (fun _ t => FW g h (Ax lo) σ1 t.heap) (Ax lo)) 0 0 (Ax lo) := by
  refine ofBD (own := RX5) (by decide +kernel) rfl (fun p e s m below meth c C1 hr hlk hlo hK1 hZ1 hW hS ls hl hd0 => ?_) (Nat.le_of_ble_eq_true rfl)
  have C0 := C1.dr s.drawn
  have hK := hK1.dr s.drawn
  have hZ := hZ1.dr s.drawn
  have hx := C0.1
  have hb := C0.2.1
  have hl : lv_has ls 1 [(0, .ref (h.2.2 20 0))] := hl
  unfold FX5_tension at hF
  refine lv_aload_n hx hb dX5_tension_0 rfl (lv_at hl 0 rfl) ?_
  refine lv_iconst (v := 0) hx hb dX5_tension_1 (by decide) ?_
  refine put20_0 C0 hK hW hS 0 (al20 h 20 (by decide)) wFL_X5_38 dX5_tension_2 (fun H locs hW hS => ?_)
  refine lv_aload_n hx hb dX5_tension_5 rfl (lv_at hl 0 rfl) ?_
  refine get20 C0 hK hW 0 (al20 h 20 (by decide)) 2 (by decide) wFL_X5_42 rfl rfl dX5_tension_6 ?_
  refine lv_if_ne (tgt := 16) hx hb dX5_tension_9 (by decide) (fun c1 => ?_) (fun c1 => ?_)
  · rw [if_neg c1] at hF
    obtain ⟨z, hz, hF⟩ := bnd hF
    refine lv_aload_n hx hb dX5_tension_16 rfl (lv_at hl 0 rfl) ?_
    refine inI (runV C0 hlo hK hZ hW hS (kX5_heldByAll l lo g h _   _ _ hz) wCO_X5_heldByAll wML_X5_138 wIM_X5_heldByAll wSE_X5_X5_heldByAll wIN_X5 hdX5_heldByAll ⟨Nat.le_of_ble_eq_true rfl, Nat.le_of_ble_eq_true rfl⟩ (recvK hK hW (al20 h 20 (by decide)) (ct20 0) rfl) rfl hl.1 rfl (Nat.le_of_ble_eq_true rfl) dX5_tension_17 ⟨Nat.le_of_ble_eq_true rfl, Nat.le_of_ble_eq_true rfl⟩) hS (fun H locs hW hS => ?_)
    refine lv_i2d hx hb dX5_tension_20 ?_
    refine lv_sipush (v := 1000) hx hb dX5_tension_21 (by decide) ?_
    refine lv_aload_n hx hb dX5_tension_24 rfl (lv_at hl 0 rfl) ?_
    refine get20 C0 hK hW 0 (al20 h 20 (by decide)) 2 (by decide) wFL_X5_42 rfl rfl dX5_tension_25 ?_
    refine lv_imul hx hb dX5_tension_28 ?_
    refine lv_i2d hx hb dX5_tension_29 ?_
    refine lv_ddiv_any hd0 lw_bits hx hb dX5_tension_30 (fun r d1 hal hd1 => ?_)
    cases hF
    exact retD hd1 C1 hr hlk hal hW hS dX5_tension_31
  · rw [if_pos c1] at hF
    refine lv_dconst0 hx hb dX5_tension_12 ?_
    refine lv_goto (tgt := 31) hx hb dX5_tension_13 (by decide) ?_
    cases hF
    exact retD hd0 C1 hr hlk (alike64_refl _) hW hS dX5_tension_31
