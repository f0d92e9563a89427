/-! THE LAW'S WRAPPERS: what the class throws becomes a number -/
def hkn (t : Nat) : Nat := if t = 21 then 1 else if t = 13 then 2 else 3
theorem exN_ne {a b : Nat} (ha : a = 1 ∨ a = 2 ∨ a = 3) (hb : b = 1 ∨ b = 2 ∨ b = 3) (hn : a ≠ b) : exN a ≠ exN b := by
  rcases ha with rfl | rfl | rfl <;> rcases hb with rfl | rfl | rfl <;> first | exact absurd rfl hn | decide
theorem exN_in {a : Nat} (ha : a = 1 ∨ a = 2 ∨ a = 3) : exN a ∈ exs := by
  rcases ha with rfl | rfl | rfl <;> decide
theorem hcl_in {t : Nat} (h : t = 21 ∨ t = 13 ∨ t = 15) : Cond.classLink RL t (exN (hkn t)) ∈ wB := by
  rcases h with rfl | rfl | rfl
  · exact wCL_L_21
  · exact wCL_L_13
  · exact wCL_L_15
theorem hkn_in {t : Nat} (h : t = 21 ∨ t = 13 ∨ t = 15) : hkn t = 1 ∨ hkn t = 2 ∨ hkn t = 3 := by
  rcases h with rfl | rfl | rfl <;> decide
/-- what a wrapper answers -/
def wr (f : Nat → Option Int32) (v : Int32 → Int64) (z : (Nat ⊕ Int32) × Sg) : Option (Int32 × Sg) :=
  match z.1 with
  | .inl k => (f k).map fun r => (r, z.2)
  | .inr r => some (0, sL z.2 30 0 (0 : Int32).toNatClampNeg (v r))
theorem wr_l {f : Nat → Option Int32} {v : Int32 → Int64} {z : (Nat ⊕ Int32) × Sg} {k : Nat} (h : z.1 = .inl k) : wr f v z = (f k).map fun r => (r, z.2) := by
  unfold wr; rw [h]
theorem wr_r {f : Nat → Option Int32} {v : Int32 → Int64} {z : (Nat ⊕ Int32) × Sg} {r : Int32} (h : z.1 = .inr r) : wr f v z = some (0, sL z.2 30 0 (0 : Int32).toNatClampNeg (v r)) := by
  unfold wr; rw [h]
section WRAPS
variable {p : Program} {l : Launch} {e : Env} {R : Room} {s : State} {m : MethodId} {args : Array Value} {below : List Frame} {meth : Method} {c : Code} {H : Heap} {locs : List Loc} {cells slots : Nat} {Q : State → Prop}
variable {cc bytes : ByteArray} {pc nL maxL index n lo mc ms fr lw : Nat} {ls : Array Slot} {rest st0 As : List Value} {own C : String} {g : Gx} {h : Sh} {σ σ1 : Sg} {y : MethodName} {ret : Option FieldType} {b : Nat} {Qc : Array Value → State → Outcome → State → Prop}
theorem ofBW {hh : List (Nat × Nat × Nat × Nat)} {av : List Value} (hy : plainName y.cls = true) (hyo : y.cls = own)
    (body : ∀ (p : Program) (e : Env) (s : State) (m : MethodId) (below : List Frame) (meth : Method) (c : Code), CallFix p m c cc maxL s av.toArray wB own → meth.sig.returnType = ret → meth.locks = false → lo ≤ s.heap.size → KW g s → ZW lo s s.heap → FW g h (Ax lo) σ s.heap → va_S (Ax lo) s.heap s.heap [] → c.exceptionTable.toList = tableOf hh → ∀ ls : Array Slot, lv_has ls maxL (lv_args 0 av) →
      W p l e { frames := fr, cells := mc, slots := ms, locals := lw } s m av.toArray below meth c s.heap [] 0 0 (MQ below Qc av.toArray s mc ms (Ax lo)) (F0 m 0 ls [])) (hlen : (lg_sl av).length ≤ maxL) :
    Met l y (wsW y cc maxL ret hh) { frames := fr, cells := mc, slots := ms, locals := lw } (va_Pc av (WD lo g h σ)) Qc mc ms (Ax lo) := by
  refine va_MetW (cc := cc) (maxL := maxL) (ret := ret) (hh := hh) hy rfl ?_
  intro p e s m args below meth c s₁ B hml hv
  obtain ⟨rfl, hlo, hW, hK, hZ⟩ := hv
  have hts := atoms_spec (ws := wsW y cc maxL ret hh) B.pre
  have hown : s.vm.findClass own = some m.cls := hyo ▸ findClass_of_methodNamed B.named
  rw [lg_entry_eq]
  exact body p e s m below meth c ⟨B.exec, B.bytes, hml, hown, fun w hw => hts w (List.mem_cons_of_mem _ hw)⟩ B.returns B.notSynchronized hlo hK hZ hW va_S.rf (vx_table (x := y) B (hts _ List.mem_cons_self)) _ (lv_entry av hlen)
theorem catX {hh pre suf : List (Nat × Nat × Nat × Nat)} {x : Nat × Nat × Nat × Nat} {k : Nat} {ce : Cell} {q : Addr} (C0 : CallFix p m c cc nL s args wB RL) (hK : KW g s) (htb : c.exceptionTable.toList = tableOf hh) (hs : hh = pre ++ x :: suf) (hk : hkn x.2.2.2 = k)
    (hp : ∀ z ∈ pre, (z.2.2.2 = 21 ∨ z.2.2.2 = 13 ∨ z.2.2.2 = 15) ∧ hkn z.2.2.2 ≠ k) (hxt : x.2.2.2 = 21 ∨ x.2.2.2 = 13 ∨ x.2.2.2 = 15) (hx : covers (⟨x.1, x.2.1, x.2.2.1, x.2.2.2⟩ : ExceptionTableEntry) pc = true)
    (hcell : H[q]? = some ce) (hv : ce.vm = .none) (hcl : s.vm.findClass (exN k) = some ce.cls)
    (kk : W p l e R s m args below meth c H locs cells slots Q (F0 m x.2.2.1 ls [.ref q])) : vx_W p l e R s m args below meth c H locs cells slots Q (F0 m pc ls rest) q := by
  have hk3 : k = 1 ∨ k = 2 ∨ k = 3 := hk ▸ hkn_in hxt
  refine vx_catch (own := RL) (name := exN (hkn x.2.2.2)) (E := exN k) C0.2.2.2.1 (tableOf pre) ⟨x.1, x.2.1, x.2.2.1, x.2.2.2⟩ (tableOf suf) (by rw [htb, hs]; simp [tableOf]) ?_ hx (by rcases hxt with q | q | q <;> (show x.2.2.2 ≠ 0) <;> omega) (C0.2.2.2.2 _ (hcl_in hxt)) (by rw [hk]; exact va_Nw.use rfl (hK.2.2.2.1 _ (exN_in hk3))) hcell hv hcl kk
  intro z hz
  obtain ⟨y, hy, rfl⟩ := List.mem_map.mp hz
  obtain ⟨h1, h2⟩ := hp y hy
  exact Or.inr ⟨by rcases h1 with q | q | q <;> (show y.2.2.2 ≠ 0) <;> omega, exN (hkn y.2.2.2), C0.2.2.2.2 _ (hcl_in h1), hK.2.2.2.2.1 _ (exN_in hk3) _ (exN_in (hkn_in h1)) (exN_ne hk3 (hkn_in h1) (Ne.symm h2))⟩
end WRAPS
theorem hdsL_wind : yL_wind.cls ≠ "java/lang/invoke/MethodHandle" ∧ yL_wind.cls ≠ "java/lang/invoke/VarHandle" ∧ (parseMethodDescriptor yL_wind.desc).map (fun d => d.parameters.length) = some 4 := by decide +kernel
def FL_wind (ns nb : Nat) (σ : Sg) (a1 : Int32) (a2 : Int32) : Option (Int32 × Sg) := (FX4_wind ns nb σ a1 a2).bind (wr (fun k => if k = 1 then some 1 else if k = 2 then some 2 else none) (Int32.toInt64))
set_option maxHeartbeats 4000000 in
theorem kL_wind (l : Launch) (hnt : l.stackTraces = false) (lo : Nat) (g : Gx) (h : Sh) (σ : Sg) (a1 : Int32) (a2 : Int32) (r : Int32) (σ1 : Sg) (hF : FL_wind h.1 h.2.1 σ a1 a2 = some (r, σ1)) : MI l yL_wind (wsW yL_wind cL_wind 5 (some .int) [(0, 10, 13, 21), (0, 10, 17, 13)]) 7 153 1 6 lo g h [.ref (h.2.2 0 0), .int a1, .int a2, .ref (h.2.2 30 0)] σ r σ1 := by
  refine ofBW (own := RL) (by decide +kernel) rfl (fun p e s m below meth c C0 hr hlk hlo hK hZ hW hS htb ls hl => ?_) (Nat.le_of_ble_eq_true rfl)
  have hx := C0.1
  have hb := C0.2.1
  have hl : lv_has ls 5 [(0, .ref (h.2.2 0 0)), (1, .int a1), (2, .int a2), (3, .ref (h.2.2 30 0))] := hl
  unfold FL_wind at hF
  obtain ⟨z, hz, hF⟩ := bnd hF
  refine lv_aload_n hx hb dL_wind_0 rfl (lv_at hl 3 rfl) ?_
  refine lv_iconst (v := 0) hx hb dL_wind_1 (by decide) ?_
  refine lv_aload_n hx hb dL_wind_2 rfl (lv_at hl 0 rfl) ?_
  refine lv_iload_n hx hb dL_wind_3 rfl (lv_at hl 1 rfl) ?_
  refine lv_iload_n hx hb dL_wind_4 rfl (lv_at hl 2 rfl) ?_
  have hrun := runVX (e := e) (rest := [.int 0, .ref (h.2.2 30 0)]) (ls := ls) (pc := 5) (R := { frames := 7, cells := 1, slots := 6, locals := 153 }) (cells := 0) (slots := 0) (below := below) (meth := meth) C0 hlo hK hZ hW hS (kX4_wind l hnt lo g h σ a1 a2 z hz) wCO_X4_wind wML_L_17 wIM_X4_wind wSE_X4_X4_wind wIN_X4 hdX4_wind ⟨(Nat.le_of_ble_eq_true rfl), (Nat.le_of_ble_eq_true rfl)⟩ (recvK hK hW (al0 h 0 (by decide)) (ct0 0) rfl) rfl hl.1 rfl (Nat.le_of_ble_eq_true rfl) dL_wind_5 ⟨(Nat.le_of_ble_eq_true rfl), (Nat.le_of_ble_eq_true rfl)⟩
  refine vx_calli hrun hS (fun _ _ q => q) (fun _ q => q) (fun _ _ q => q) (fun E ce q9 u t H1 locs1 ht hvm hp hB hz9 hk9 hS1 hce hcv hcl => ?_) (fun r9 v t H1 locs1 ht hvm hw hB hz9 hk9 hS1 => ?_)
  · obtain ⟨⟨k, hk1, rfl⟩, hW1⟩ := hB
    subst ht
    rw [wr_l hk1] at hF
    by_cases e0 : k = 1
    · subst e0
      refine catX C0 hK htb (pre := []) (x := (0, 10, 13, 21)) (suf := [(0, 10, 17, 13)]) rfl rfl (by decide) (by decide) (by decide) hce hcv hcl ?_
      refine lv_astore (lv' := [(4, .ref q9), (0, .ref (h.2.2 0 0)), (1, .int a1), (2, .int a2), (3, .ref (h.2.2 30 0))]) hx hb dL_wind_13 hl (by decide) rfl (fun ls hl => ?_)
      refine lv_iconst (v := 1) hx hb dL_wind_15 (by decide) ?_
      cases hF
      exact retI C0 hr hlk hW1 hS1 dL_wind_16
    by_cases e1 : k = 2
    · subst e1
      refine catX C0 hK htb (pre := [(0, 10, 13, 21)]) (x := (0, 10, 17, 13)) (suf := []) rfl rfl (by decide) (by decide) (by decide) hce hcv hcl ?_
      refine lv_astore (lv' := [(4, .ref q9), (0, .ref (h.2.2 0 0)), (1, .int a1), (2, .int a2), (3, .ref (h.2.2 30 0))]) hx hb dL_wind_17 hl (by decide) rfl (fun ls hl => ?_)
      refine lv_iconst (v := 2) hx hb dL_wind_19 (by decide) ?_
      cases hF
      exact retI C0 hr hlk hW1 hS1 dL_wind_20
    · exfalso
      simp only [e0, e1, if_false, Option.map_none] at hF
      cases hF
  · rw [wr_r hw] at hF
    subst ht
    refine lv_i2l hx hb dL_wind_8 rfl ?_
    refine lst C0 hK hB hS1 (show vp_in 0 1 by unfold vp_in; decide) dL_wind_9 (fun H locs hW hS => ?_)
    refine lv_goto (tgt := 21) hx hb dL_wind_10 (by decide) ?_
    refine lv_iconst (v := 0) hx hb dL_wind_21 (by decide) ?_
    cases hF
    exact retI C0 hr hlk hW hS dL_wind_22
theorem hdsL_brake : yL_brake.cls ≠ "java/lang/invoke/MethodHandle" ∧ yL_brake.cls ≠ "java/lang/invoke/VarHandle" ∧ (parseMethodDescriptor yL_brake.desc).map (fun d => d.parameters.length) = some 4 := by decide +kernel
def FL_brake (ns nb : Nat) (σ : Sg) (a1 : Int32) (a2 : Int32) : Option (Int32 × Sg) := (FX4_brake ns nb σ a1 a2).bind (wr (fun k => if k = 1 then some 1 else none) (fun r => if r = 0 then 0 else 1))
set_option maxHeartbeats 4000000 in
theorem kL_brake (l : Launch) (hnt : l.stackTraces = false) (lo : Nat) (g : Gx) (h : Sh) (σ : Sg) (a1 : Int32) (a2 : Int32) (r : Int32) (σ1 : Sg) (hF : FL_brake h.1 h.2.1 σ a1 a2 = some (r, σ1)) : MI l yL_brake (wsW yL_brake cL_brake 5 (some .int) [(0, 17, 20, 21)]) 7 154 1 6 lo g h [.ref (h.2.2 0 0), .int a1, .int a2, .ref (h.2.2 30 0)] σ r σ1 := by
  refine ofBW (own := RL) (by decide +kernel) rfl (fun p e s m below meth c C0 hr hlk hlo hK hZ hW hS htb ls hl => ?_) (Nat.le_of_ble_eq_true rfl)
  have hx := C0.1
  have hb := C0.2.1
  have hl : lv_has ls 5 [(0, .ref (h.2.2 0 0)), (1, .int a1), (2, .int a2), (3, .ref (h.2.2 30 0))] := hl
  unfold FL_brake at hF
  obtain ⟨z, hz, hF⟩ := bnd hF
  refine lv_aload_n hx hb dL_brake_0 rfl (lv_at hl 3 rfl) ?_
  refine lv_iconst (v := 0) hx hb dL_brake_1 (by decide) ?_
  refine lv_aload_n hx hb dL_brake_2 rfl (lv_at hl 0 rfl) ?_
  refine lv_iload_n hx hb dL_brake_3 rfl (lv_at hl 1 rfl) ?_
  refine lv_iload_n hx hb dL_brake_4 rfl (lv_at hl 2 rfl) ?_
  have hrun := runVX (e := e) (rest := [.int 0, .ref (h.2.2 30 0)]) (ls := ls) (pc := 5) (R := { frames := 7, cells := 1, slots := 6, locals := 154 }) (cells := 0) (slots := 0) (below := below) (meth := meth) C0 hlo hK hZ hW hS (kX4_brake l hnt lo g h σ a1 a2 z hz) wCO_X4_brake wML_L_23 wIM_X4_brake wSE_X4_X4_brake wIN_X4 hdX4_brake ⟨(Nat.le_of_ble_eq_true rfl), (Nat.le_of_ble_eq_true rfl)⟩ (recvK hK hW (al0 h 0 (by decide)) (ct0 0) rfl) rfl hl.1 rfl (Nat.le_of_ble_eq_true rfl) dL_brake_5 ⟨(Nat.le_of_ble_eq_true rfl), (Nat.le_of_ble_eq_true rfl)⟩
  refine vx_calli hrun hS (fun _ _ q => q) (fun _ q => q) (fun _ _ q => q) (fun E ce q9 u t H1 locs1 ht hvm hp hB hz9 hk9 hS1 hce hcv hcl => ?_) (fun r9 v t H1 locs1 ht hvm hw hB hz9 hk9 hS1 => ?_)
  · obtain ⟨⟨k, hk1, rfl⟩, hW1⟩ := hB
    subst ht
    rw [wr_l hk1] at hF
    by_cases e0 : k = 1
    · subst e0
      refine catX C0 hK htb (pre := []) (x := (0, 17, 20, 21)) (suf := []) rfl rfl (by decide) (by decide) (by decide) hce hcv hcl ?_
      refine lv_astore (lv' := [(4, .ref q9), (0, .ref (h.2.2 0 0)), (1, .int a1), (2, .int a2), (3, .ref (h.2.2 30 0))]) hx hb dL_brake_20 hl (by decide) rfl (fun ls hl => ?_)
      refine lv_iconst (v := 1) hx hb dL_brake_22 (by decide) ?_
      cases hF
      exact retI C0 hr hlk hW1 hS1 dL_brake_23
    · exfalso
      simp only [e0, if_false, Option.map_none] at hF
      cases hF
  · rw [wr_r hw] at hF
    subst ht
    refine lv_if_eq (tgt := 15) hx hb dL_brake_8 (by decide) (fun c1 => ?_) (fun c1 => ?_)
    · rw [if_pos c1] at hF
      refine lv_lconst (v := 0) hx hb dL_brake_15 (by decide) ?_
      refine lst C0 hK hB hS1 (show vp_in 0 1 by unfold vp_in; decide) dL_brake_16 (fun H locs hW hS => ?_)
      refine lv_goto (tgt := 24) hx hb dL_brake_17 (by decide) ?_
      refine lv_iconst (v := 0) hx hb dL_brake_24 (by decide) ?_
      cases hF
      exact retI C0 hr hlk hW hS dL_brake_25
    · rw [if_neg c1] at hF
      refine lv_lconst (v := 1) hx hb dL_brake_11 (by decide) ?_
      refine lv_goto (tgt := 16) hx hb dL_brake_12 (by decide) ?_
      refine lst C0 hK hB hS1 (show vp_in 0 1 by unfold vp_in; decide) dL_brake_16 (fun H locs hW hS => ?_)
      refine lv_goto (tgt := 24) hx hb dL_brake_17 (by decide) ?_
      refine lv_iconst (v := 0) hx hb dL_brake_24 (by decide) ?_
      cases hF
      exact retI C0 hr hlk hW hS dL_brake_25
theorem hdsL_couple : yL_couple.cls ≠ "java/lang/invoke/MethodHandle" ∧ yL_couple.cls ≠ "java/lang/invoke/VarHandle" ∧ (parseMethodDescriptor yL_couple.desc).map (fun d => d.parameters.length) = some 5 := by decide +kernel
def FL_couple (ns nb : Nat) (σ : Sg) (a1 : Int32) (a2 : Int32) (a3 : Int32) : Option (Int32 × Sg) := (FX4_couple ns nb σ a1 a2 a3).bind (wr (fun k => if k = 1 then some 1 else if k = 2 then some 2 else none) (Int32.toInt64))
set_option maxHeartbeats 4000000 in
theorem kL_couple (l : Launch) (hnt : l.stackTraces = false) (lo : Nat) (g : Gx) (h : Sh) (σ : Sg) (a1 : Int32) (a2 : Int32) (a3 : Int32) (r : Int32) (σ1 : Sg) (hF : FL_couple h.1 h.2.1 σ a1 a2 a3 = some (r, σ1)) : MI l yL_couple (wsW yL_couple cL_couple 6 (some .int) [(0, 12, 15, 21), (0, 12, 19, 13)]) 7 154 1 6 lo g h [.ref (h.2.2 0 0), .int a1, .int a2, .int a3, .ref (h.2.2 30 0)] σ r σ1 := by
  refine ofBW (own := RL) (by decide +kernel) rfl (fun p e s m below meth c C0 hr hlk hlo hK hZ hW hS htb ls hl => ?_) (Nat.le_of_ble_eq_true rfl)
  have hx := C0.1
  have hb := C0.2.1
  have hl : lv_has ls 6 [(0, .ref (h.2.2 0 0)), (1, .int a1), (2, .int a2), (3, .int a3), (4, .ref (h.2.2 30 0))] := hl
  unfold FL_couple at hF
  obtain ⟨z, hz, hF⟩ := bnd hF
  refine lv_aload hx hb dL_couple_0 (lv_at hl 4 rfl) ?_
  refine lv_iconst (v := 0) hx hb dL_couple_2 (by decide) ?_
  refine lv_aload_n hx hb dL_couple_3 rfl (lv_at hl 0 rfl) ?_
  refine lv_iload_n hx hb dL_couple_4 rfl (lv_at hl 1 rfl) ?_
  refine lv_iload_n hx hb dL_couple_5 rfl (lv_at hl 2 rfl) ?_
  refine lv_iload_n hx hb dL_couple_6 rfl (lv_at hl 3 rfl) ?_
  have hrun := runVX (e := e) (rest := [.int 0, .ref (h.2.2 30 0)]) (ls := ls) (pc := 7) (R := { frames := 7, cells := 1, slots := 6, locals := 154 }) (cells := 0) (slots := 0) (below := below) (meth := meth) C0 hlo hK hZ hW hS (kX4_couple l hnt lo g h σ a1 a2 a3 z hz) wCO_X4_couple wML_L_27 wIM_X4_couple wSE_X4_X4_couple wIN_X4 hdX4_couple ⟨(Nat.le_of_ble_eq_true rfl), (Nat.le_of_ble_eq_true rfl)⟩ (recvK hK hW (al0 h 0 (by decide)) (ct0 0) rfl) rfl hl.1 rfl (Nat.le_of_ble_eq_true rfl) dL_couple_7 ⟨(Nat.le_of_ble_eq_true rfl), (Nat.le_of_ble_eq_true rfl)⟩
  refine vx_calli hrun hS (fun _ _ q => q) (fun _ q => q) (fun _ _ q => q) (fun E ce q9 u t H1 locs1 ht hvm hp hB hz9 hk9 hS1 hce hcv hcl => ?_) (fun r9 v t H1 locs1 ht hvm hw hB hz9 hk9 hS1 => ?_)
  · obtain ⟨⟨k, hk1, rfl⟩, hW1⟩ := hB
    subst ht
    rw [wr_l hk1] at hF
    by_cases e0 : k = 1
    · subst e0
      refine catX C0 hK htb (pre := []) (x := (0, 12, 15, 21)) (suf := [(0, 12, 19, 13)]) rfl rfl (by decide) (by decide) (by decide) hce hcv hcl ?_
      refine lv_astore (lv' := [(5, .ref q9), (0, .ref (h.2.2 0 0)), (1, .int a1), (2, .int a2), (3, .int a3), (4, .ref (h.2.2 30 0))]) hx hb dL_couple_15 hl (by decide) rfl (fun ls hl => ?_)
      refine lv_iconst (v := 1) hx hb dL_couple_17 (by decide) ?_
      cases hF
      exact retI C0 hr hlk hW1 hS1 dL_couple_18
    by_cases e1 : k = 2
    · subst e1
      refine catX C0 hK htb (pre := [(0, 12, 15, 21)]) (x := (0, 12, 19, 13)) (suf := []) rfl rfl (by decide) (by decide) (by decide) hce hcv hcl ?_
      refine lv_astore (lv' := [(5, .ref q9), (0, .ref (h.2.2 0 0)), (1, .int a1), (2, .int a2), (3, .int a3), (4, .ref (h.2.2 30 0))]) hx hb dL_couple_19 hl (by decide) rfl (fun ls hl => ?_)
      refine lv_iconst (v := 2) hx hb dL_couple_21 (by decide) ?_
      cases hF
      exact retI C0 hr hlk hW1 hS1 dL_couple_22
    · exfalso
      simp only [e0, e1, if_false, Option.map_none] at hF
      cases hF
  · rw [wr_r hw] at hF
    subst ht
    refine lv_i2l hx hb dL_couple_10 rfl ?_
    refine lst C0 hK hB hS1 (show vp_in 0 1 by unfold vp_in; decide) dL_couple_11 (fun H locs hW hS => ?_)
    refine lv_goto (tgt := 23) hx hb dL_couple_12 (by decide) ?_
    refine lv_iconst (v := 0) hx hb dL_couple_23 (by decide) ?_
    cases hF
    exact retI C0 hr hlk hW hS dL_couple_24
theorem hdsL_spring : yL_spring.cls ≠ "java/lang/invoke/MethodHandle" ∧ yL_spring.cls ≠ "java/lang/invoke/VarHandle" ∧ (parseMethodDescriptor yL_spring.desc).map (fun d => d.parameters.length) = some 4 := by decide +kernel
def FL_spring (ns nb : Nat) (σ : Sg) (a1 : Int32) (a2 : Int32) : Option (Int32 × Sg) := (FX4_spring ns nb σ a1 a2).bind (wr (fun k => if k = 1 then some 1 else none) (Int32.toInt64))
set_option maxHeartbeats 4000000 in
theorem kL_spring (l : Launch) (hnt : l.stackTraces = false) (lo : Nat) (g : Gx) (h : Sh) (σ : Sg) (a1 : Int32) (a2 : Int32) (r : Int32) (σ1 : Sg) (hF : FL_spring h.1 h.2.1 σ a1 a2 = some (r, σ1)) : MI l yL_spring (wsW yL_spring cL_spring 5 (some .int) [(0, 10, 13, 21)]) 7 153 1 6 lo g h [.ref (h.2.2 0 0), .int a1, .int a2, .ref (h.2.2 30 0)] σ r σ1 := by
  refine ofBW (own := RL) (by decide +kernel) rfl (fun p e s m below meth c C0 hr hlk hlo hK hZ hW hS htb ls hl => ?_) (Nat.le_of_ble_eq_true rfl)
  have hx := C0.1
  have hb := C0.2.1
  have hl : lv_has ls 5 [(0, .ref (h.2.2 0 0)), (1, .int a1), (2, .int a2), (3, .ref (h.2.2 30 0))] := hl
  unfold FL_spring at hF
  obtain ⟨z, hz, hF⟩ := bnd hF
  refine lv_aload_n hx hb dL_spring_0 rfl (lv_at hl 3 rfl) ?_
  refine lv_iconst (v := 0) hx hb dL_spring_1 (by decide) ?_
  refine lv_aload_n hx hb dL_spring_2 rfl (lv_at hl 0 rfl) ?_
  refine lv_iload_n hx hb dL_spring_3 rfl (lv_at hl 1 rfl) ?_
  refine lv_iload_n hx hb dL_spring_4 rfl (lv_at hl 2 rfl) ?_
  have hrun := runVX (e := e) (rest := [.int 0, .ref (h.2.2 30 0)]) (ls := ls) (pc := 5) (R := { frames := 7, cells := 1, slots := 6, locals := 153 }) (cells := 0) (slots := 0) (below := below) (meth := meth) C0 hlo hK hZ hW hS (kX4_spring l hnt lo g h σ a1 a2 z hz) wCO_X4_spring wML_L_31 wIM_X4_spring wSE_X4_X4_spring wIN_X4 hdX4_spring ⟨(Nat.le_of_ble_eq_true rfl), (Nat.le_of_ble_eq_true rfl)⟩ (recvK hK hW (al0 h 0 (by decide)) (ct0 0) rfl) rfl hl.1 rfl (Nat.le_of_ble_eq_true rfl) dL_spring_5 ⟨(Nat.le_of_ble_eq_true rfl), (Nat.le_of_ble_eq_true rfl)⟩
  refine vx_calli hrun hS (fun _ _ q => q) (fun _ q => q) (fun _ _ q => q) (fun E ce q9 u t H1 locs1 ht hvm hp hB hz9 hk9 hS1 hce hcv hcl => ?_) (fun r9 v t H1 locs1 ht hvm hw hB hz9 hk9 hS1 => ?_)
  · obtain ⟨⟨k, hk1, rfl⟩, hW1⟩ := hB
    subst ht
    rw [wr_l hk1] at hF
    by_cases e0 : k = 1
    · subst e0
      refine catX C0 hK htb (pre := []) (x := (0, 10, 13, 21)) (suf := []) rfl rfl (by decide) (by decide) (by decide) hce hcv hcl ?_
      refine lv_astore (lv' := [(4, .ref q9), (0, .ref (h.2.2 0 0)), (1, .int a1), (2, .int a2), (3, .ref (h.2.2 30 0))]) hx hb dL_spring_13 hl (by decide) rfl (fun ls hl => ?_)
      refine lv_iconst (v := 1) hx hb dL_spring_15 (by decide) ?_
      cases hF
      exact retI C0 hr hlk hW1 hS1 dL_spring_16
    · exfalso
      simp only [e0, if_false, Option.map_none] at hF
      cases hF
  · rw [wr_r hw] at hF
    subst ht
    refine lv_i2l hx hb dL_spring_8 rfl ?_
    refine lst C0 hK hB hS1 (show vp_in 0 1 by unfold vp_in; decide) dL_spring_9 (fun H locs hW hS => ?_)
    refine lv_goto (tgt := 17) hx hb dL_spring_10 (by decide) ?_
    refine lv_iconst (v := 0) hx hb dL_spring_17 (by decide) ?_
    cases hF
    exact retI C0 hr hlk hW hS dL_spring_18
theorem hdsL_addSpring : yL_addSpring.cls ≠ "java/lang/invoke/MethodHandle" ∧ yL_addSpring.cls ≠ "java/lang/invoke/VarHandle" ∧ (parseMethodDescriptor yL_addSpring.desc).map (fun d => d.parameters.length) = some 3 := by decide +kernel
def FL_addSpring (ns nb : Nat) (σ : Sg) (a1 : Int32) : Option (Int32 × Sg) := (FX4_addSpring ns nb σ a1).bind (wr (fun k => if k = 2 then some 1 else if k = 3 then some 2 else none) (Int32.toInt64))
set_option maxHeartbeats 4000000 in
theorem kL_addSpring (l : Launch) (hnt : l.stackTraces = false) (lo : Nat) (g : Gx) (h : Sh) (σ : Sg) (a1 : Int32) (r : Int32) (σ1 : Sg) (hF : FL_addSpring h.1 h.2.1 σ a1 = some (r, σ1)) : Met l yL_addSpring (wsW yL_addSpring cL_addSpring 4 (some .int) [(0, 9, 12, 13), (0, 9, 15, 15)]) { frames := 7, cells := 1, slots := 8, locals := 152 } (va_Pc [.ref (h.2.2 0 0), .int a1, .ref (h.2.2 30 0)] (WD lo g h σ)) (va_Qi (fun (r' : Int32) (_ : Nat) => r' = r) (fun v t => FW g (if r = 0 then shS h v else h) (Ax lo) σ1 t.heap) (Ax lo)) 1 8 (Ax lo) := by
  refine ofBW (own := RL) (by decide +kernel) rfl (fun p e s m below meth c C0 hr hlk hlo hK hZ hW hS htb ls hl => ?_) (Nat.le_of_ble_eq_true rfl)
  have hx := C0.1
  have hb := C0.2.1
  have hl : lv_has ls 4 [(0, .ref (h.2.2 0 0)), (1, .int a1), (2, .ref (h.2.2 30 0))] := hl
  unfold FL_addSpring at hF
  obtain ⟨z, hz, hF⟩ := bnd hF
  refine lv_aload_n hx hb dL_addSpring_0 rfl (lv_at hl 2 rfl) ?_
  refine lv_iconst (v := 0) hx hb dL_addSpring_1 (by decide) ?_
  refine lv_aload_n hx hb dL_addSpring_2 rfl (lv_at hl 0 rfl) ?_
  refine lv_iload_n hx hb dL_addSpring_3 rfl (lv_at hl 1 rfl) ?_
  have hrun := runVX (e := e) (rest := [.int 0, .ref (h.2.2 30 0)]) (ls := ls) (pc := 4) (R := { frames := 7, cells := 1, slots := 8, locals := 152 }) (cells := 0) (slots := 0) (below := below) (meth := meth) C0 hlo hK hZ hW hS (kX4_addSpring l hnt lo g h σ a1 z hz) wCO_X4_addSpring wML_L_7 wIM_X4_addSpring wSE_X4_X4_addSpring wIN_X4 hdX4_addSpring ⟨(Nat.le_of_ble_eq_true rfl), (Nat.le_of_ble_eq_true rfl)⟩ (recvK hK hW (al0 h 0 (by decide)) (ct0 0) rfl) rfl hl.1 rfl (Nat.le_of_ble_eq_true rfl) dL_addSpring_4 ⟨(Nat.le_of_ble_eq_true rfl), (Nat.le_of_ble_eq_true rfl)⟩
  refine vx_calli hrun hS (fun _ _ q => q) (fun _ q => q) (fun _ _ q => q) (fun E ce q9 u t H1 locs1 ht hvm hp hB hz9 hk9 hS1 hce hcv hcl => ?_) (fun r9 v t H1 locs1 ht hvm hw hB hz9 hk9 hS1 => ?_)
  · obtain ⟨⟨k, hk1, rfl⟩, hW1⟩ := hB
    subst ht
    rw [wr_l hk1] at hF
    by_cases e0 : k = 2
    · subst e0
      refine catX C0 hK htb (pre := []) (x := (0, 9, 12, 13)) (suf := [(0, 9, 15, 15)]) rfl rfl (by decide) (by decide) (by decide) hce hcv hcl ?_
      refine lv_astore_n (lv' := [(3, .ref q9), (0, .ref (h.2.2 0 0)), (1, .int a1), (2, .ref (h.2.2 30 0))]) hx hb dL_addSpring_12 rfl hl (by decide) rfl (fun ls hl => ?_)
      refine lv_iconst (v := 1) hx hb dL_addSpring_13 (by decide) ?_
      cases hF
      exact W.iret C0.1 C0.2.1 hr (fun t ht hw => ⟨⟨1, (0 : Nat), rfl, rfl, by show FW g (ite _ _ _) _ _ t.heap; rw [ht, if_neg (by decide)]; exact hW1⟩, hS1.F ht⟩) hS1.2.2 dL_addSpring_14 hlk
    by_cases e1 : k = 3
    · subst e1
      refine catX C0 hK htb (pre := [(0, 9, 12, 13)]) (x := (0, 9, 15, 15)) (suf := []) rfl rfl (by decide) (by decide) (by decide) hce hcv hcl ?_
      refine lv_astore_n (lv' := [(3, .ref q9), (0, .ref (h.2.2 0 0)), (1, .int a1), (2, .ref (h.2.2 30 0))]) hx hb dL_addSpring_15 rfl hl (by decide) rfl (fun ls hl => ?_)
      refine lv_iconst (v := 2) hx hb dL_addSpring_16 (by decide) ?_
      cases hF
      exact W.iret C0.1 C0.2.1 hr (fun t ht hw => ⟨⟨2, (0 : Nat), rfl, rfl, by show FW g (ite _ _ _) _ _ t.heap; rw [ht, if_neg (by decide)]; exact hW1⟩, hS1.F ht⟩) hS1.2.2 dL_addSpring_17 hlk
    · exfalso
      simp only [e0, e1, if_false, Option.map_none] at hF
      cases hF
  · rw [wr_r hw] at hF
    subst ht
    refine lv_i2l hx hb dL_addSpring_7 rfl ?_
    refine lst (h := shS h v) C0 hK hB hS1 (show vp_in 0 1 by unfold vp_in; decide) dL_addSpring_8 (fun H locs hW hS => ?_)
    refine lv_goto (tgt := 18) hx hb dL_addSpring_9 (by decide) ?_
    refine lv_iconst (v := 0) hx hb dL_addSpring_18 (by decide) ?_
    cases hF
    exact W.iret C0.1 C0.2.1 hr (fun t ht hw => ⟨⟨0, v, rfl, rfl, by show FW g (ite _ _ _) _ _ t.heap; rw [ht, if_pos rfl]; exact hW⟩, hS.F ht⟩) hS.2.2 dL_addSpring_19 hlk
theorem hdsL_addBird : yL_addBird.cls ≠ "java/lang/invoke/MethodHandle" ∧ yL_addBird.cls ≠ "java/lang/invoke/VarHandle" ∧ (parseMethodDescriptor yL_addBird.desc).map (fun d => d.parameters.length) = some 7 := by decide +kernel
def FL_addBird (ns nb : Nat) (σ : Sg) (a1 : Int32) (a2 : Int32) (a3 : Int32) (a4 : Int32) (a5 : Int32) : Option (Int32 × Sg) := (FX4_addBird ns nb σ a1 a2 a3 a4 a5).bind (wr (fun k => if k = 1 then some 1 else if k = 2 then some 2 else if k = 3 then some 3 else none) (Int32.toInt64))
set_option maxHeartbeats 4000000 in
theorem kL_addBird (l : Launch) (hnt : l.stackTraces = false) (lo : Nat) (g : Gx) (h : Sh) (σ : Sg) (a1 : Int32) (a2 : Int32) (a3 : Int32) (a4 : Int32) (a5 : Int32) (r : Int32) (σ1 : Sg) (hF : FL_addBird h.1 h.2.1 σ a1 a2 a3 a4 a5 = some (r, σ1)) : Met l yL_addBird (wsW yL_addBird cL_addBird 8 (some .int) [(0, 16, 19, 21), (0, 16, 23, 13), (0, 16, 27, 15)]) { frames := 7, cells := 13, slots := 705, locals := 157 } (va_Pc [.ref (h.2.2 0 0), .int a1, .int a2, .int a3, .int a4, .int a5, .ref (h.2.2 30 0)] (WD lo g h σ)) (va_Qi (fun (r' : Int32) (_ : Nat × (Nat → Nat)) => r' = r) (fun v t => FW g (if r = 0 then shB h v.1 v.2 else h) (Ax lo) σ1 t.heap) (Ax lo)) 13 705 (Ax lo) := by
  refine ofBW (own := RL) (by decide +kernel) rfl (fun p e s m below meth c C0 hr hlk hlo hK hZ hW hS htb ls hl => ?_) (Nat.le_of_ble_eq_true rfl)
  have hx := C0.1
  have hb := C0.2.1
  have hl : lv_has ls 8 [(0, .ref (h.2.2 0 0)), (1, .int a1), (2, .int a2), (3, .int a3), (4, .int a4), (5, .int a5), (6, .ref (h.2.2 30 0))] := hl
  unfold FL_addBird at hF
  obtain ⟨z, hz, hF⟩ := bnd hF
  refine lv_aload hx hb dL_addBird_0 (lv_at hl 6 rfl) ?_
  refine lv_iconst (v := 0) hx hb dL_addBird_2 (by decide) ?_
  refine lv_aload_n hx hb dL_addBird_3 rfl (lv_at hl 0 rfl) ?_
  refine lv_iload_n hx hb dL_addBird_4 rfl (lv_at hl 1 rfl) ?_
  refine lv_iload_n hx hb dL_addBird_5 rfl (lv_at hl 2 rfl) ?_
  refine lv_iload_n hx hb dL_addBird_6 rfl (lv_at hl 3 rfl) ?_
  refine lv_iload hx hb dL_addBird_7 (lv_at hl 4 rfl) ?_
  refine lv_iload hx hb dL_addBird_9 (lv_at hl 5 rfl) ?_
  have hrun := runVX (e := e) (rest := [.int 0, .ref (h.2.2 30 0)]) (ls := ls) (pc := 11) (R := { frames := 7, cells := 13, slots := 705, locals := 157 }) (cells := 0) (slots := 0) (below := below) (meth := meth) C0 hlo hK hZ hW hS (kX4_addBird l hnt lo g h σ a1 a2 a3 a4 a5 z hz) wCO_X4_addBird wML_L_34 wIM_X4_addBird wSE_X4_X4_addBird wIN_X4 hdX4_addBird ⟨(Nat.le_of_ble_eq_true rfl), (Nat.le_of_ble_eq_true rfl)⟩ (recvK hK hW (al0 h 0 (by decide)) (ct0 0) rfl) rfl hl.1 rfl (Nat.le_of_ble_eq_true rfl) dL_addBird_11 ⟨(Nat.le_of_ble_eq_true rfl), (Nat.le_of_ble_eq_true rfl)⟩
  refine vx_calli hrun hS (fun _ _ q => q) (fun _ q => q) (fun _ _ q => q) (fun E ce q9 u t H1 locs1 ht hvm hp hB hz9 hk9 hS1 hce hcv hcl => ?_) (fun r9 v t H1 locs1 ht hvm hw hB hz9 hk9 hS1 => ?_)
  · obtain ⟨⟨k, hk1, rfl⟩, hW1⟩ := hB
    subst ht
    rw [wr_l hk1] at hF
    by_cases e0 : k = 1
    · subst e0
      refine catX C0 hK htb (pre := []) (x := (0, 16, 19, 21)) (suf := [(0, 16, 23, 13), (0, 16, 27, 15)]) rfl rfl (by decide) (by decide) (by decide) hce hcv hcl ?_
      refine lv_astore (lv' := [(7, .ref q9), (0, .ref (h.2.2 0 0)), (1, .int a1), (2, .int a2), (3, .int a3), (4, .int a4), (5, .int a5), (6, .ref (h.2.2 30 0))]) hx hb dL_addBird_19 hl (by decide) rfl (fun ls hl => ?_)
      refine lv_iconst (v := 1) hx hb dL_addBird_21 (by decide) ?_
      cases hF
      exact W.iret C0.1 C0.2.1 hr (fun t ht hw => ⟨⟨1, ((0 : Nat), fun _ => (0 : Nat)), rfl, rfl, by show FW g (ite _ _ _) _ _ t.heap; rw [ht, if_neg (by decide)]; exact hW1⟩, hS1.F ht⟩) hS1.2.2 dL_addBird_22 hlk
    by_cases e1 : k = 2
    · subst e1
      refine catX C0 hK htb (pre := [(0, 16, 19, 21)]) (x := (0, 16, 23, 13)) (suf := [(0, 16, 27, 15)]) rfl rfl (by decide) (by decide) (by decide) hce hcv hcl ?_
      refine lv_astore (lv' := [(7, .ref q9), (0, .ref (h.2.2 0 0)), (1, .int a1), (2, .int a2), (3, .int a3), (4, .int a4), (5, .int a5), (6, .ref (h.2.2 30 0))]) hx hb dL_addBird_23 hl (by decide) rfl (fun ls hl => ?_)
      refine lv_iconst (v := 2) hx hb dL_addBird_25 (by decide) ?_
      cases hF
      exact W.iret C0.1 C0.2.1 hr (fun t ht hw => ⟨⟨2, ((0 : Nat), fun _ => (0 : Nat)), rfl, rfl, by show FW g (ite _ _ _) _ _ t.heap; rw [ht, if_neg (by decide)]; exact hW1⟩, hS1.F ht⟩) hS1.2.2 dL_addBird_26 hlk
    by_cases e2 : k = 3
    · subst e2
      refine catX C0 hK htb (pre := [(0, 16, 19, 21), (0, 16, 23, 13)]) (x := (0, 16, 27, 15)) (suf := []) rfl rfl (by decide) (by decide) (by decide) hce hcv hcl ?_
      refine lv_astore (lv' := [(7, .ref q9), (0, .ref (h.2.2 0 0)), (1, .int a1), (2, .int a2), (3, .int a3), (4, .int a4), (5, .int a5), (6, .ref (h.2.2 30 0))]) hx hb dL_addBird_27 hl (by decide) rfl (fun ls hl => ?_)
      refine lv_iconst (v := 3) hx hb dL_addBird_29 (by decide) ?_
      cases hF
      exact W.iret C0.1 C0.2.1 hr (fun t ht hw => ⟨⟨3, ((0 : Nat), fun _ => (0 : Nat)), rfl, rfl, by show FW g (ite _ _ _) _ _ t.heap; rw [ht, if_neg (by decide)]; exact hW1⟩, hS1.F ht⟩) hS1.2.2 dL_addBird_30 hlk
    · exfalso
      simp only [e0, e1, e2, if_false, Option.map_none] at hF
      cases hF
  · rw [wr_r hw] at hF
    subst ht
    refine lv_i2l hx hb dL_addBird_14 rfl ?_
    refine lst (h := shB h v.1 v.2) C0 hK hB hS1 (show vp_in 0 1 by unfold vp_in; decide) dL_addBird_15 (fun H locs hW hS => ?_)
    refine lv_goto (tgt := 31) hx hb dL_addBird_16 (by decide) ?_
    refine lv_iconst (v := 0) hx hb dL_addBird_31 (by decide) ?_
    cases hF
    exact W.iret C0.1 C0.2.1 hr (fun t ht hw => ⟨⟨0, v, rfl, rfl, by show FW g (ite _ _ _) _ _ t.heap; rw [ht, if_pos rfl]; exact hW⟩, hS.F ht⟩) hS.2.2 dL_addBird_32 hlk
theorem hdsL_engage : yL_engage.cls ≠ "java/lang/invoke/MethodHandle" ∧ yL_engage.cls ≠ "java/lang/invoke/VarHandle" ∧ (parseMethodDescriptor yL_engage.desc).map (fun d => d.parameters.length) = some 4 := by decide +kernel
def FL_engage (ns nb : Nat) (σ : Sg) (a1 : Int32) (a2 : Int32) : Option (Int32 × Sg) := (FX4_engage ns nb σ a1 a2).bind (wr (fun k => if k = 1 then some 1 else none) (fun r => if r = 0 then 0 else 1))
set_option maxHeartbeats 4000000 in
theorem kL_engage (l : Launch) (hnt : l.stackTraces = false) (lo : Nat) (g : Gx) (h : Sh) (σ : Sg) (a1 : Int32) (a2 : Int32) (r : Int32) (σ1 : Sg) (hF : FL_engage h.1 h.2.1 σ a1 a2 = some (r, σ1)) : MI l yL_engage (wsW yL_engage cL_engage 5 (some .int) [(0, 17, 20, 21)]) 7 155 1 6 lo g h [.ref (h.2.2 0 0), .int a1, .int a2, .ref (h.2.2 30 0)] σ r σ1 := by
  refine ofBW (own := RL) (by decide +kernel) rfl (fun p e s m below meth c C0 hr hlk hlo hK hZ hW hS htb ls hl => ?_) (Nat.le_of_ble_eq_true rfl)
  have hx := C0.1
  have hb := C0.2.1
  have hl : lv_has ls 5 [(0, .ref (h.2.2 0 0)), (1, .int a1), (2, .int a2), (3, .ref (h.2.2 30 0))] := hl
  unfold FL_engage at hF
  obtain ⟨z, hz, hF⟩ := bnd hF
  refine lv_aload_n hx hb dL_engage_0 rfl (lv_at hl 3 rfl) ?_
  refine lv_iconst (v := 0) hx hb dL_engage_1 (by decide) ?_
  refine lv_aload_n hx hb dL_engage_2 rfl (lv_at hl 0 rfl) ?_
  refine lv_iload_n hx hb dL_engage_3 rfl (lv_at hl 1 rfl) ?_
  refine lv_iload_n hx hb dL_engage_4 rfl (lv_at hl 2 rfl) ?_
  have hrun := runVX (e := e) (rest := [.int 0, .ref (h.2.2 30 0)]) (ls := ls) (pc := 5) (R := { frames := 7, cells := 1, slots := 6, locals := 155 }) (cells := 0) (slots := 0) (below := below) (meth := meth) C0 hlo hK hZ hW hS (kX4_engage l hnt lo g h σ a1 a2 z hz) wCO_X4_engage wML_L_38 wIM_X4_engage wSE_X4_X4_engage wIN_X4 hdX4_engage ⟨(Nat.le_of_ble_eq_true rfl), (Nat.le_of_ble_eq_true rfl)⟩ (recvK hK hW (al0 h 0 (by decide)) (ct0 0) rfl) rfl hl.1 rfl (Nat.le_of_ble_eq_true rfl) dL_engage_5 ⟨(Nat.le_of_ble_eq_true rfl), (Nat.le_of_ble_eq_true rfl)⟩
  refine vx_calli hrun hS (fun _ _ q => q) (fun _ q => q) (fun _ _ q => q) (fun E ce q9 u t H1 locs1 ht hvm hp hB hz9 hk9 hS1 hce hcv hcl => ?_) (fun r9 v t H1 locs1 ht hvm hw hB hz9 hk9 hS1 => ?_)
  · obtain ⟨⟨k, hk1, rfl⟩, hW1⟩ := hB
    subst ht
    rw [wr_l hk1] at hF
    by_cases e0 : k = 1
    · subst e0
      refine catX C0 hK htb (pre := []) (x := (0, 17, 20, 21)) (suf := []) rfl rfl (by decide) (by decide) (by decide) hce hcv hcl ?_
      refine lv_astore (lv' := [(4, .ref q9), (0, .ref (h.2.2 0 0)), (1, .int a1), (2, .int a2), (3, .ref (h.2.2 30 0))]) hx hb dL_engage_20 hl (by decide) rfl (fun ls hl => ?_)
      refine lv_iconst (v := 1) hx hb dL_engage_22 (by decide) ?_
      cases hF
      exact retI C0 hr hlk hW1 hS1 dL_engage_23
    · exfalso
      simp only [e0, if_false, Option.map_none] at hF
      cases hF
  · rw [wr_r hw] at hF
    subst ht
    refine lv_if_eq (tgt := 15) hx hb dL_engage_8 (by decide) (fun c1 => ?_) (fun c1 => ?_)
    · rw [if_pos c1] at hF
      refine lv_lconst (v := 0) hx hb dL_engage_15 (by decide) ?_
      refine lst C0 hK hB hS1 (show vp_in 0 1 by unfold vp_in; decide) dL_engage_16 (fun H locs hW hS => ?_)
      refine lv_goto (tgt := 24) hx hb dL_engage_17 (by decide) ?_
      refine lv_iconst (v := 0) hx hb dL_engage_24 (by decide) ?_
      cases hF
      exact retI C0 hr hlk hW hS dL_engage_25
    · rw [if_neg c1] at hF
      refine lv_lconst (v := 1) hx hb dL_engage_11 (by decide) ?_
      refine lv_goto (tgt := 16) hx hb dL_engage_12 (by decide) ?_
      refine lst C0 hK hB hS1 (show vp_in 0 1 by unfold vp_in; decide) dL_engage_16 (fun H locs hW hS => ?_)
      refine lv_goto (tgt := 24) hx hb dL_engage_17 (by decide) ?_
      refine lv_iconst (v := 0) hx hb dL_engage_24 (by decide) ?_
      cases hF
      exact retI C0 hr hlk hW hS dL_engage_25
theorem hdsL_pin : yL_pin.cls ≠ "java/lang/invoke/MethodHandle" ∧ yL_pin.cls ≠ "java/lang/invoke/VarHandle" ∧ (parseMethodDescriptor yL_pin.desc).map (fun d => d.parameters.length) = some 5 := by decide +kernel
def FL_pin (ns nb : Nat) (σ : Sg) (a1 : Int32) (a2 : Int32) (a3 : Int32) : Option (Int32 × Sg) := (FX4_pin ns nb σ a1 a2 a3).bind (wr (fun k => if k = 1 then some 1 else if k = 2 then some 2 else if k = 3 then some 3 else none) (Int32.toInt64))
set_option maxHeartbeats 4000000 in
theorem kL_pin (l : Launch) (hnt : l.stackTraces = false) (lo : Nat) (g : Gx) (h : Sh) (σ : Sg) (a1 : Int32) (a2 : Int32) (a3 : Int32) (r : Int32) (σ1 : Sg) (hF : FL_pin h.1 h.2.1 σ a1 a2 a3 = some (r, σ1)) : MI l yL_pin (wsW yL_pin cL_pin 6 (some .int) [(0, 12, 15, 21), (0, 12, 19, 13), (0, 12, 23, 15)]) 7 154 1 6 lo g h [.ref (h.2.2 0 0), .int a1, .int a2, .int a3, .ref (h.2.2 30 0)] σ r σ1 := by
  refine ofBW (own := RL) (by decide +kernel) rfl (fun p e s m below meth c C0 hr hlk hlo hK hZ hW hS htb ls hl => ?_) (Nat.le_of_ble_eq_true rfl)
  have hx := C0.1
  have hb := C0.2.1
  have hl : lv_has ls 6 [(0, .ref (h.2.2 0 0)), (1, .int a1), (2, .int a2), (3, .int a3), (4, .ref (h.2.2 30 0))] := hl
  unfold FL_pin at hF
  obtain ⟨z, hz, hF⟩ := bnd hF
  refine lv_aload hx hb dL_pin_0 (lv_at hl 4 rfl) ?_
  refine lv_iconst (v := 0) hx hb dL_pin_2 (by decide) ?_
  refine lv_aload_n hx hb dL_pin_3 rfl (lv_at hl 0 rfl) ?_
  refine lv_iload_n hx hb dL_pin_4 rfl (lv_at hl 1 rfl) ?_
  refine lv_iload_n hx hb dL_pin_5 rfl (lv_at hl 2 rfl) ?_
  refine lv_iload_n hx hb dL_pin_6 rfl (lv_at hl 3 rfl) ?_
  have hrun := runVX (e := e) (rest := [.int 0, .ref (h.2.2 30 0)]) (ls := ls) (pc := 7) (R := { frames := 7, cells := 1, slots := 6, locals := 154 }) (cells := 0) (slots := 0) (below := below) (meth := meth) C0 hlo hK hZ hW hS (kX4_pin l hnt lo g h σ a1 a2 a3 z hz) wCO_X4_pin wML_L_41 wIM_X4_pin wSE_X4_X4_pin wIN_X4 hdX4_pin ⟨(Nat.le_of_ble_eq_true rfl), (Nat.le_of_ble_eq_true rfl)⟩ (recvK hK hW (al0 h 0 (by decide)) (ct0 0) rfl) rfl hl.1 rfl (Nat.le_of_ble_eq_true rfl) dL_pin_7 ⟨(Nat.le_of_ble_eq_true rfl), (Nat.le_of_ble_eq_true rfl)⟩
  refine vx_calli hrun hS (fun _ _ q => q) (fun _ q => q) (fun _ _ q => q) (fun E ce q9 u t H1 locs1 ht hvm hp hB hz9 hk9 hS1 hce hcv hcl => ?_) (fun r9 v t H1 locs1 ht hvm hw hB hz9 hk9 hS1 => ?_)
  · obtain ⟨⟨k, hk1, rfl⟩, hW1⟩ := hB
    subst ht
    rw [wr_l hk1] at hF
    by_cases e0 : k = 1
    · subst e0
      refine catX C0 hK htb (pre := []) (x := (0, 12, 15, 21)) (suf := [(0, 12, 19, 13), (0, 12, 23, 15)]) rfl rfl (by decide) (by decide) (by decide) hce hcv hcl ?_
      refine lv_astore (lv' := [(5, .ref q9), (0, .ref (h.2.2 0 0)), (1, .int a1), (2, .int a2), (3, .int a3), (4, .ref (h.2.2 30 0))]) hx hb dL_pin_15 hl (by decide) rfl (fun ls hl => ?_)
      refine lv_iconst (v := 1) hx hb dL_pin_17 (by decide) ?_
      cases hF
      exact retI C0 hr hlk hW1 hS1 dL_pin_18
    by_cases e1 : k = 2
    · subst e1
      refine catX C0 hK htb (pre := [(0, 12, 15, 21)]) (x := (0, 12, 19, 13)) (suf := [(0, 12, 23, 15)]) rfl rfl (by decide) (by decide) (by decide) hce hcv hcl ?_
      refine lv_astore (lv' := [(5, .ref q9), (0, .ref (h.2.2 0 0)), (1, .int a1), (2, .int a2), (3, .int a3), (4, .ref (h.2.2 30 0))]) hx hb dL_pin_19 hl (by decide) rfl (fun ls hl => ?_)
      refine lv_iconst (v := 2) hx hb dL_pin_21 (by decide) ?_
      cases hF
      exact retI C0 hr hlk hW1 hS1 dL_pin_22
    by_cases e2 : k = 3
    · subst e2
      refine catX C0 hK htb (pre := [(0, 12, 15, 21), (0, 12, 19, 13)]) (x := (0, 12, 23, 15)) (suf := []) rfl rfl (by decide) (by decide) (by decide) hce hcv hcl ?_
      refine lv_astore (lv' := [(5, .ref q9), (0, .ref (h.2.2 0 0)), (1, .int a1), (2, .int a2), (3, .int a3), (4, .ref (h.2.2 30 0))]) hx hb dL_pin_23 hl (by decide) rfl (fun ls hl => ?_)
      refine lv_iconst (v := 3) hx hb dL_pin_25 (by decide) ?_
      cases hF
      exact retI C0 hr hlk hW1 hS1 dL_pin_26
    · exfalso
      simp only [e0, e1, e2, if_false, Option.map_none] at hF
      cases hF
  · rw [wr_r hw] at hF
    subst ht
    refine lv_i2l hx hb dL_pin_10 rfl ?_
    refine lst C0 hK hB hS1 (show vp_in 0 1 by unfold vp_in; decide) dL_pin_11 (fun H locs hW hS => ?_)
    refine lv_goto (tgt := 27) hx hb dL_pin_12 (by decide) ?_
    refine lv_iconst (v := 0) hx hb dL_pin_27 (by decide) ?_
    cases hF
    exact retI C0 hr hlk hW hS dL_pin_28
theorem hdsL_tune : yL_tune.cls ≠ "java/lang/invoke/MethodHandle" ∧ yL_tune.cls ≠ "java/lang/invoke/VarHandle" ∧ (parseMethodDescriptor yL_tune.desc).map (fun d => d.parameters.length) = some 5 := by decide +kernel
def FL_tune (ns nb : Nat) (σ : Sg) (a1 : Int32) (a2 : Int32) (a3 : Int32) : Option (Int32 × Sg) := (FX4_tune ns nb σ a1 a2 a3).bind (wr (fun k => if k = 1 then some 1 else if k = 2 then some 2 else none) (Int32.toInt64))
set_option maxHeartbeats 4000000 in
theorem kL_tune (l : Launch) (hnt : l.stackTraces = false) (lo : Nat) (g : Gx) (h : Sh) (σ : Sg) (a1 : Int32) (a2 : Int32) (a3 : Int32) (r : Int32) (σ1 : Sg) (hF : FL_tune h.1 h.2.1 σ a1 a2 a3 = some (r, σ1)) : MI l yL_tune (wsW yL_tune cL_tune 6 (some .int) [(0, 12, 15, 21), (0, 12, 19, 13)]) 7 155 1 6 lo g h [.ref (h.2.2 0 0), .int a1, .int a2, .int a3, .ref (h.2.2 30 0)] σ r σ1 := by
  refine ofBW (own := RL) (by decide +kernel) rfl (fun p e s m below meth c C0 hr hlk hlo hK hZ hW hS htb ls hl => ?_) (Nat.le_of_ble_eq_true rfl)
  have hx := C0.1
  have hb := C0.2.1
  have hl : lv_has ls 6 [(0, .ref (h.2.2 0 0)), (1, .int a1), (2, .int a2), (3, .int a3), (4, .ref (h.2.2 30 0))] := hl
  unfold FL_tune at hF
  obtain ⟨z, hz, hF⟩ := bnd hF
  refine lv_aload hx hb dL_tune_0 (lv_at hl 4 rfl) ?_
  refine lv_iconst (v := 0) hx hb dL_tune_2 (by decide) ?_
  refine lv_aload_n hx hb dL_tune_3 rfl (lv_at hl 0 rfl) ?_
  refine lv_iload_n hx hb dL_tune_4 rfl (lv_at hl 1 rfl) ?_
  refine lv_iload_n hx hb dL_tune_5 rfl (lv_at hl 2 rfl) ?_
  refine lv_iload_n hx hb dL_tune_6 rfl (lv_at hl 3 rfl) ?_
  have hrun := runVX (e := e) (rest := [.int 0, .ref (h.2.2 30 0)]) (ls := ls) (pc := 7) (R := { frames := 7, cells := 1, slots := 6, locals := 155 }) (cells := 0) (slots := 0) (below := below) (meth := meth) C0 hlo hK hZ hW hS (kX4_tune l hnt lo g h σ a1 a2 a3 z hz) wCO_X4_tune wML_L_45 wIM_X4_tune wSE_X4_X4_tune wIN_X4 hdX4_tune ⟨(Nat.le_of_ble_eq_true rfl), (Nat.le_of_ble_eq_true rfl)⟩ (recvK hK hW (al0 h 0 (by decide)) (ct0 0) rfl) rfl hl.1 rfl (Nat.le_of_ble_eq_true rfl) dL_tune_7 ⟨(Nat.le_of_ble_eq_true rfl), (Nat.le_of_ble_eq_true rfl)⟩
  refine vx_calli hrun hS (fun _ _ q => q) (fun _ q => q) (fun _ _ q => q) (fun E ce q9 u t H1 locs1 ht hvm hp hB hz9 hk9 hS1 hce hcv hcl => ?_) (fun r9 v t H1 locs1 ht hvm hw hB hz9 hk9 hS1 => ?_)
  · obtain ⟨⟨k, hk1, rfl⟩, hW1⟩ := hB
    subst ht
    rw [wr_l hk1] at hF
    by_cases e0 : k = 1
    · subst e0
      refine catX C0 hK htb (pre := []) (x := (0, 12, 15, 21)) (suf := [(0, 12, 19, 13)]) rfl rfl (by decide) (by decide) (by decide) hce hcv hcl ?_
      refine lv_astore (lv' := [(5, .ref q9), (0, .ref (h.2.2 0 0)), (1, .int a1), (2, .int a2), (3, .int a3), (4, .ref (h.2.2 30 0))]) hx hb dL_tune_15 hl (by decide) rfl (fun ls hl => ?_)
      refine lv_iconst (v := 1) hx hb dL_tune_17 (by decide) ?_
      cases hF
      exact retI C0 hr hlk hW1 hS1 dL_tune_18
    by_cases e1 : k = 2
    · subst e1
      refine catX C0 hK htb (pre := [(0, 12, 15, 21)]) (x := (0, 12, 19, 13)) (suf := []) rfl rfl (by decide) (by decide) (by decide) hce hcv hcl ?_
      refine lv_astore (lv' := [(5, .ref q9), (0, .ref (h.2.2 0 0)), (1, .int a1), (2, .int a2), (3, .int a3), (4, .ref (h.2.2 30 0))]) hx hb dL_tune_19 hl (by decide) rfl (fun ls hl => ?_)
      refine lv_iconst (v := 2) hx hb dL_tune_21 (by decide) ?_
      cases hF
      exact retI C0 hr hlk hW1 hS1 dL_tune_22
    · exfalso
      simp only [e0, e1, if_false, Option.map_none] at hF
      cases hF
  · rw [wr_r hw] at hF
    subst ht
    refine lv_i2l hx hb dL_tune_10 rfl ?_
    refine lst C0 hK hB hS1 (show vp_in 0 1 by unfold vp_in; decide) dL_tune_11 (fun H locs hW hS => ?_)
    refine lv_goto (tgt := 23) hx hb dL_tune_12 (by decide) ?_
    refine lv_iconst (v := 0) hx hb dL_tune_23 (by decide) ?_
    cases hF
    exact retI C0 hr hlk hW hS dL_tune_24
theorem hdsL_point : yL_point.cls ≠ "java/lang/invoke/MethodHandle" ∧ yL_point.cls ≠ "java/lang/invoke/VarHandle" ∧ (parseMethodDescriptor yL_point.desc).map (fun d => d.parameters.length) = some 6 := by decide +kernel
def FL_point (ns nb : Nat) (σ : Sg) (a1 : Int32) (a2 : Int32) (a3 : Int32) (a4 : Int32) : Option (Int32 × Sg) := (FX4_point ns nb σ a1 a2 a3 a4).bind (wr (fun k => if k = 1 then some 1 else if k = 2 then some 2 else if k = 3 then some 3 else none) (Int32.toInt64))
set_option maxHeartbeats 4000000 in
theorem kL_point (l : Launch) (hnt : l.stackTraces = false) (lo : Nat) (g : Gx) (h : Sh) (σ : Sg) (a1 : Int32) (a2 : Int32) (a3 : Int32) (a4 : Int32) (r : Int32) (σ1 : Sg) (hF : FL_point h.1 h.2.1 σ a1 a2 a3 a4 = some (r, σ1)) : MI l yL_point (wsW yL_point cL_point 7 (some .int) [(0, 14, 17, 21), (0, 14, 21, 13), (0, 14, 25, 15)]) 7 157 1 6 lo g h [.ref (h.2.2 0 0), .int a1, .int a2, .int a3, .int a4, .ref (h.2.2 30 0)] σ r σ1 := by
  refine ofBW (own := RL) (by decide +kernel) rfl (fun p e s m below meth c C0 hr hlk hlo hK hZ hW hS htb ls hl => ?_) (Nat.le_of_ble_eq_true rfl)
  have hx := C0.1
  have hb := C0.2.1
  have hl : lv_has ls 7 [(0, .ref (h.2.2 0 0)), (1, .int a1), (2, .int a2), (3, .int a3), (4, .int a4), (5, .ref (h.2.2 30 0))] := hl
  unfold FL_point at hF
  obtain ⟨z, hz, hF⟩ := bnd hF
  refine lv_aload hx hb dL_point_0 (lv_at hl 5 rfl) ?_
  refine lv_iconst (v := 0) hx hb dL_point_2 (by decide) ?_
  refine lv_aload_n hx hb dL_point_3 rfl (lv_at hl 0 rfl) ?_
  refine lv_iload_n hx hb dL_point_4 rfl (lv_at hl 1 rfl) ?_
  refine lv_iload_n hx hb dL_point_5 rfl (lv_at hl 2 rfl) ?_
  refine lv_iload_n hx hb dL_point_6 rfl (lv_at hl 3 rfl) ?_
  refine lv_iload hx hb dL_point_7 (lv_at hl 4 rfl) ?_
  have hrun := runVX (e := e) (rest := [.int 0, .ref (h.2.2 30 0)]) (ls := ls) (pc := 9) (R := { frames := 7, cells := 1, slots := 6, locals := 157 }) (cells := 0) (slots := 0) (below := below) (meth := meth) C0 hlo hK hZ hW hS (kX4_point l hnt lo g h σ a1 a2 a3 a4 z hz) wCO_X4_point wML_L_48 wIM_X4_point wSE_X4_X4_point wIN_X4 hdX4_point ⟨(Nat.le_of_ble_eq_true rfl), (Nat.le_of_ble_eq_true rfl)⟩ (recvK hK hW (al0 h 0 (by decide)) (ct0 0) rfl) rfl hl.1 rfl (Nat.le_of_ble_eq_true rfl) dL_point_9 ⟨(Nat.le_of_ble_eq_true rfl), (Nat.le_of_ble_eq_true rfl)⟩
  refine vx_calli hrun hS (fun _ _ q => q) (fun _ q => q) (fun _ _ q => q) (fun E ce q9 u t H1 locs1 ht hvm hp hB hz9 hk9 hS1 hce hcv hcl => ?_) (fun r9 v t H1 locs1 ht hvm hw hB hz9 hk9 hS1 => ?_)
  · obtain ⟨⟨k, hk1, rfl⟩, hW1⟩ := hB
    subst ht
    rw [wr_l hk1] at hF
    by_cases e0 : k = 1
    · subst e0
      refine catX C0 hK htb (pre := []) (x := (0, 14, 17, 21)) (suf := [(0, 14, 21, 13), (0, 14, 25, 15)]) rfl rfl (by decide) (by decide) (by decide) hce hcv hcl ?_
      refine lv_astore (lv' := [(6, .ref q9), (0, .ref (h.2.2 0 0)), (1, .int a1), (2, .int a2), (3, .int a3), (4, .int a4), (5, .ref (h.2.2 30 0))]) hx hb dL_point_17 hl (by decide) rfl (fun ls hl => ?_)
      refine lv_iconst (v := 1) hx hb dL_point_19 (by decide) ?_
      cases hF
      exact retI C0 hr hlk hW1 hS1 dL_point_20
    by_cases e1 : k = 2
    · subst e1
      refine catX C0 hK htb (pre := [(0, 14, 17, 21)]) (x := (0, 14, 21, 13)) (suf := [(0, 14, 25, 15)]) rfl rfl (by decide) (by decide) (by decide) hce hcv hcl ?_
      refine lv_astore (lv' := [(6, .ref q9), (0, .ref (h.2.2 0 0)), (1, .int a1), (2, .int a2), (3, .int a3), (4, .int a4), (5, .ref (h.2.2 30 0))]) hx hb dL_point_21 hl (by decide) rfl (fun ls hl => ?_)
      refine lv_iconst (v := 2) hx hb dL_point_23 (by decide) ?_
      cases hF
      exact retI C0 hr hlk hW1 hS1 dL_point_24
    by_cases e2 : k = 3
    · subst e2
      refine catX C0 hK htb (pre := [(0, 14, 17, 21), (0, 14, 21, 13)]) (x := (0, 14, 25, 15)) (suf := []) rfl rfl (by decide) (by decide) (by decide) hce hcv hcl ?_
      refine lv_astore (lv' := [(6, .ref q9), (0, .ref (h.2.2 0 0)), (1, .int a1), (2, .int a2), (3, .int a3), (4, .int a4), (5, .ref (h.2.2 30 0))]) hx hb dL_point_25 hl (by decide) rfl (fun ls hl => ?_)
      refine lv_iconst (v := 3) hx hb dL_point_27 (by decide) ?_
      cases hF
      exact retI C0 hr hlk hW1 hS1 dL_point_28
    · exfalso
      simp only [e0, e1, e2, if_false, Option.map_none] at hF
      cases hF
  · rw [wr_r hw] at hF
    subst ht
    refine lv_i2l hx hb dL_point_12 rfl ?_
    refine lst C0 hK hB hS1 (show vp_in 0 1 by unfold vp_in; decide) dL_point_13 (fun H locs hW hS => ?_)
    refine lv_goto (tgt := 29) hx hb dL_point_14 (by decide) ?_
    refine lv_iconst (v := 0) hx hb dL_point_29 (by decide) ?_
    cases hF
    exact retI C0 hr hlk hW hS dL_point_30
theorem hdsL_bird : yL_bird.cls ≠ "java/lang/invoke/MethodHandle" ∧ yL_bird.cls ≠ "java/lang/invoke/VarHandle" ∧ (parseMethodDescriptor yL_bird.desc).map (fun d => d.parameters.length) = some 4 := by decide +kernel
def FL_bird (ns nb : Nat) (σ : Sg) (a1 : Int32) (a2 : Int32) : Option (Int32 × Sg) := (FX4_bird ns nb σ a1 a2).bind (wr (fun k => if k = 1 then some 1 else none) (Int32.toInt64))
set_option maxHeartbeats 4000000 in
theorem kL_bird (l : Launch) (hnt : l.stackTraces = false) (lo : Nat) (g : Gx) (h : Sh) (σ : Sg) (a1 : Int32) (a2 : Int32) (r : Int32) (σ1 : Sg) (hF : FL_bird h.1 h.2.1 σ a1 a2 = some (r, σ1)) : MI l yL_bird (wsW yL_bird cL_bird 5 (some .int) [(0, 10, 13, 21)]) 7 153 1 6 lo g h [.ref (h.2.2 0 0), .int a1, .int a2, .ref (h.2.2 30 0)] σ r σ1 := by
  refine ofBW (own := RL) (by decide +kernel) rfl (fun p e s m below meth c C0 hr hlk hlo hK hZ hW hS htb ls hl => ?_) (Nat.le_of_ble_eq_true rfl)
  have hx := C0.1
  have hb := C0.2.1
  have hl : lv_has ls 5 [(0, .ref (h.2.2 0 0)), (1, .int a1), (2, .int a2), (3, .ref (h.2.2 30 0))] := hl
  unfold FL_bird at hF
  obtain ⟨z, hz, hF⟩ := bnd hF
  refine lv_aload_n hx hb dL_bird_0 rfl (lv_at hl 3 rfl) ?_
  refine lv_iconst (v := 0) hx hb dL_bird_1 (by decide) ?_
  refine lv_aload_n hx hb dL_bird_2 rfl (lv_at hl 0 rfl) ?_
  refine lv_iload_n hx hb dL_bird_3 rfl (lv_at hl 1 rfl) ?_
  refine lv_iload_n hx hb dL_bird_4 rfl (lv_at hl 2 rfl) ?_
  have hrun := runVX (e := e) (rest := [.int 0, .ref (h.2.2 30 0)]) (ls := ls) (pc := 5) (R := { frames := 7, cells := 1, slots := 6, locals := 153 }) (cells := 0) (slots := 0) (below := below) (meth := meth) C0 hlo hK hZ hW hS (kX4_bird l hnt lo g h σ a1 a2 z hz) wCO_X4_bird wML_L_52 wIM_X4_bird wSE_X4_X4_bird wIN_X4 hdX4_bird ⟨(Nat.le_of_ble_eq_true rfl), (Nat.le_of_ble_eq_true rfl)⟩ (recvK hK hW (al0 h 0 (by decide)) (ct0 0) rfl) rfl hl.1 rfl (Nat.le_of_ble_eq_true rfl) dL_bird_5 ⟨(Nat.le_of_ble_eq_true rfl), (Nat.le_of_ble_eq_true rfl)⟩
  refine vx_calli hrun hS (fun _ _ q => q) (fun _ q => q) (fun _ _ q => q) (fun E ce q9 u t H1 locs1 ht hvm hp hB hz9 hk9 hS1 hce hcv hcl => ?_) (fun r9 v t H1 locs1 ht hvm hw hB hz9 hk9 hS1 => ?_)
  · obtain ⟨⟨k, hk1, rfl⟩, hW1⟩ := hB
    subst ht
    rw [wr_l hk1] at hF
    by_cases e0 : k = 1
    · subst e0
      refine catX C0 hK htb (pre := []) (x := (0, 10, 13, 21)) (suf := []) rfl rfl (by decide) (by decide) (by decide) hce hcv hcl ?_
      refine lv_astore (lv' := [(4, .ref q9), (0, .ref (h.2.2 0 0)), (1, .int a1), (2, .int a2), (3, .ref (h.2.2 30 0))]) hx hb dL_bird_13 hl (by decide) rfl (fun ls hl => ?_)
      refine lv_iconst (v := 1) hx hb dL_bird_15 (by decide) ?_
      cases hF
      exact retI C0 hr hlk hW1 hS1 dL_bird_16
    · exfalso
      simp only [e0, if_false, Option.map_none] at hF
      cases hF
  · rw [wr_r hw] at hF
    subst ht
    refine lv_i2l hx hb dL_bird_8 rfl ?_
    refine lst C0 hK hB hS1 (show vp_in 0 1 by unfold vp_in; decide) dL_bird_9 (fun H locs hW hS => ?_)
    refine lv_goto (tgt := 17) hx hb dL_bird_10 (by decide) ?_
    refine lv_iconst (v := 0) hx hb dL_bird_17 (by decide) ?_
    cases hF
    exact retI C0 hr hlk hW hS dL_bird_18
theorem hdsL_lift : yL_lift.cls ≠ "java/lang/invoke/MethodHandle" ∧ yL_lift.cls ≠ "java/lang/invoke/VarHandle" ∧ (parseMethodDescriptor yL_lift.desc).map (fun d => d.parameters.length) = some 5 := by decide +kernel
def FL_lift (ns nb : Nat) (σ : Sg) (a1 : Int32) (a2 : Int32) (a3 : Int32) : Option (Int32 × Sg) := (FX4_lift ns nb σ a1 a2 a3).bind (wr (fun k => if k = 1 then some 1 else if k = 2 then some 2 else none) (Int32.toInt64))
set_option maxHeartbeats 4000000 in
theorem kL_lift (l : Launch) (hnt : l.stackTraces = false) (lo : Nat) (g : Gx) (h : Sh) (σ : Sg) (a1 : Int32) (a2 : Int32) (a3 : Int32) (r : Int32) (σ1 : Sg) (hF : FL_lift h.1 h.2.1 σ a1 a2 a3 = some (r, σ1)) : MI l yL_lift (wsW yL_lift cL_lift 6 (some .int) [(0, 12, 15, 21), (0, 12, 19, 13)]) 7 155 1 6 lo g h [.ref (h.2.2 0 0), .int a1, .int a2, .int a3, .ref (h.2.2 30 0)] σ r σ1 := by
  refine ofBW (own := RL) (by decide +kernel) rfl (fun p e s m below meth c C0 hr hlk hlo hK hZ hW hS htb ls hl => ?_) (Nat.le_of_ble_eq_true rfl)
  have hx := C0.1
  have hb := C0.2.1
  have hl : lv_has ls 6 [(0, .ref (h.2.2 0 0)), (1, .int a1), (2, .int a2), (3, .int a3), (4, .ref (h.2.2 30 0))] := hl
  unfold FL_lift at hF
  obtain ⟨z, hz, hF⟩ := bnd hF
  refine lv_aload hx hb dL_lift_0 (lv_at hl 4 rfl) ?_
  refine lv_iconst (v := 0) hx hb dL_lift_2 (by decide) ?_
  refine lv_aload_n hx hb dL_lift_3 rfl (lv_at hl 0 rfl) ?_
  refine lv_iload_n hx hb dL_lift_4 rfl (lv_at hl 1 rfl) ?_
  refine lv_iload_n hx hb dL_lift_5 rfl (lv_at hl 2 rfl) ?_
  refine lv_iload_n hx hb dL_lift_6 rfl (lv_at hl 3 rfl) ?_
  have hrun := runVX (e := e) (rest := [.int 0, .ref (h.2.2 30 0)]) (ls := ls) (pc := 7) (R := { frames := 7, cells := 1, slots := 6, locals := 155 }) (cells := 0) (slots := 0) (below := below) (meth := meth) C0 hlo hK hZ hW hS (kX4_lift l hnt lo g h σ a1 a2 a3 z hz) wCO_X4_lift wML_L_55 wIM_X4_lift wSE_X4_X4_lift wIN_X4 hdX4_lift ⟨(Nat.le_of_ble_eq_true rfl), (Nat.le_of_ble_eq_true rfl)⟩ (recvK hK hW (al0 h 0 (by decide)) (ct0 0) rfl) rfl hl.1 rfl (Nat.le_of_ble_eq_true rfl) dL_lift_7 ⟨(Nat.le_of_ble_eq_true rfl), (Nat.le_of_ble_eq_true rfl)⟩
  refine vx_calli hrun hS (fun _ _ q => q) (fun _ q => q) (fun _ _ q => q) (fun E ce q9 u t H1 locs1 ht hvm hp hB hz9 hk9 hS1 hce hcv hcl => ?_) (fun r9 v t H1 locs1 ht hvm hw hB hz9 hk9 hS1 => ?_)
  · obtain ⟨⟨k, hk1, rfl⟩, hW1⟩ := hB
    subst ht
    rw [wr_l hk1] at hF
    by_cases e0 : k = 1
    · subst e0
      refine catX C0 hK htb (pre := []) (x := (0, 12, 15, 21)) (suf := [(0, 12, 19, 13)]) rfl rfl (by decide) (by decide) (by decide) hce hcv hcl ?_
      refine lv_astore (lv' := [(5, .ref q9), (0, .ref (h.2.2 0 0)), (1, .int a1), (2, .int a2), (3, .int a3), (4, .ref (h.2.2 30 0))]) hx hb dL_lift_15 hl (by decide) rfl (fun ls hl => ?_)
      refine lv_iconst (v := 1) hx hb dL_lift_17 (by decide) ?_
      cases hF
      exact retI C0 hr hlk hW1 hS1 dL_lift_18
    by_cases e1 : k = 2
    · subst e1
      refine catX C0 hK htb (pre := [(0, 12, 15, 21)]) (x := (0, 12, 19, 13)) (suf := []) rfl rfl (by decide) (by decide) (by decide) hce hcv hcl ?_
      refine lv_astore (lv' := [(5, .ref q9), (0, .ref (h.2.2 0 0)), (1, .int a1), (2, .int a2), (3, .int a3), (4, .ref (h.2.2 30 0))]) hx hb dL_lift_19 hl (by decide) rfl (fun ls hl => ?_)
      refine lv_iconst (v := 2) hx hb dL_lift_21 (by decide) ?_
      cases hF
      exact retI C0 hr hlk hW1 hS1 dL_lift_22
    · exfalso
      simp only [e0, e1, if_false, Option.map_none] at hF
      cases hF
  · rw [wr_r hw] at hF
    subst ht
    refine lv_i2l hx hb dL_lift_10 rfl ?_
    refine lst C0 hK hB hS1 (show vp_in 0 1 by unfold vp_in; decide) dL_lift_11 (fun H locs hW hS => ?_)
    refine lv_goto (tgt := 23) hx hb dL_lift_12 (by decide) ?_
    refine lv_iconst (v := 0) hx hb dL_lift_23 (by decide) ?_
    cases hF
    exact retI C0 hr hlk hW hS dL_lift_24
theorem hdsL_run : yL_run.cls ≠ "java/lang/invoke/MethodHandle" ∧ yL_run.cls ≠ "java/lang/invoke/VarHandle" ∧ (parseMethodDescriptor yL_run.desc).map (fun d => d.parameters.length) = some 3 := by decide +kernel
def FL_run (ns nb : Nat) (σ : Sg) (a1 : Int32) : Option (Int32 × Sg) := (FX4_run ns nb σ a1).bind (wr (fun k => if k = 2 then some 1 else none) (Int32.toInt64))
set_option maxHeartbeats 4000000 in
theorem kL_run (l : Launch) (hnt : l.stackTraces = false) (lo : Nat) (g : Gx) (h : Sh) (σ : Sg) (a1 : Int32) (r : Int32) (σ1 : Sg) (hF : FL_run h.1 h.2.1 σ a1 = some (r, σ1)) : MI l yL_run (wsW yL_run cL_run 4 (some .int) [(0, 9, 12, 13)]) 7 173 1 6 lo g h [.ref (h.2.2 0 0), .int a1, .ref (h.2.2 30 0)] σ r σ1 := by
  refine ofBW (own := RL) (by decide +kernel) rfl (fun p e s m below meth c C0 hr hlk hlo hK hZ hW hS htb ls hl => ?_) (Nat.le_of_ble_eq_true rfl)
  have hx := C0.1
  have hb := C0.2.1
  have hl : lv_has ls 4 [(0, .ref (h.2.2 0 0)), (1, .int a1), (2, .ref (h.2.2 30 0))] := hl
  unfold FL_run at hF
  obtain ⟨z, hz, hF⟩ := bnd hF
  refine lv_aload_n hx hb dL_run_0 rfl (lv_at hl 2 rfl) ?_
  refine lv_iconst (v := 0) hx hb dL_run_1 (by decide) ?_
  refine lv_aload_n hx hb dL_run_2 rfl (lv_at hl 0 rfl) ?_
  refine lv_iload_n hx hb dL_run_3 rfl (lv_at hl 1 rfl) ?_
  have hrun := runVX (e := e) (rest := [.int 0, .ref (h.2.2 30 0)]) (ls := ls) (pc := 4) (R := { frames := 7, cells := 1, slots := 6, locals := 173 }) (cells := 0) (slots := 0) (below := below) (meth := meth) C0 hlo hK hZ hW hS (kX4_run l hnt lo g h σ a1 z hz) wCO_X4_run wML_L_58 wIM_X4_run wSE_X4_X4_run wIN_X4 hdX4_run ⟨(Nat.le_of_ble_eq_true rfl), (Nat.le_of_ble_eq_true rfl)⟩ (recvK hK hW (al0 h 0 (by decide)) (ct0 0) rfl) rfl hl.1 rfl (Nat.le_of_ble_eq_true rfl) dL_run_4 ⟨(Nat.le_of_ble_eq_true rfl), (Nat.le_of_ble_eq_true rfl)⟩
  refine vx_calli hrun hS (fun _ _ q => q) (fun _ q => q) (fun _ _ q => q) (fun E ce q9 u t H1 locs1 ht hvm hp hB hz9 hk9 hS1 hce hcv hcl => ?_) (fun r9 v t H1 locs1 ht hvm hw hB hz9 hk9 hS1 => ?_)
  · obtain ⟨⟨k, hk1, rfl⟩, hW1⟩ := hB
    subst ht
    rw [wr_l hk1] at hF
    by_cases e0 : k = 2
    · subst e0
      refine catX C0 hK htb (pre := []) (x := (0, 9, 12, 13)) (suf := []) rfl rfl (by decide) (by decide) (by decide) hce hcv hcl ?_
      refine lv_astore_n (lv' := [(3, .ref q9), (0, .ref (h.2.2 0 0)), (1, .int a1), (2, .ref (h.2.2 30 0))]) hx hb dL_run_12 rfl hl (by decide) rfl (fun ls hl => ?_)
      refine lv_iconst (v := 1) hx hb dL_run_13 (by decide) ?_
      cases hF
      exact retI C0 hr hlk hW1 hS1 dL_run_14
    · exfalso
      simp only [e0, if_false, Option.map_none] at hF
      cases hF
  · rw [wr_r hw] at hF
    subst ht
    refine lv_i2l hx hb dL_run_7 rfl ?_
    refine lst C0 hK hB hS1 (show vp_in 0 1 by unfold vp_in; decide) dL_run_8 (fun H locs hW hS => ?_)
    refine lv_goto (tgt := 15) hx hb dL_run_9 (by decide) ?_
    refine lv_iconst (v := 0) hx hb dL_run_15 (by decide) ?_
    cases hF
    exact retI C0 hr hlk hW hS dL_run_16
theorem hdsL_count : yL_count.cls ≠ "java/lang/invoke/MethodHandle" ∧ yL_count.cls ≠ "java/lang/invoke/VarHandle" ∧ (parseMethodDescriptor yL_count.desc).map (fun d => d.parameters.length) = some 3 := by decide +kernel
def FL_count (ns nb : Nat) (σ : Sg) (a1 : Int32) : Option (Int32 × Sg) := (FX4_count ns nb σ a1).bind (wr (fun k => if k = 1 then some 1 else none) (Int32.toInt64))
set_option maxHeartbeats 4000000 in
theorem kL_count (l : Launch) (hnt : l.stackTraces = false) (lo : Nat) (g : Gx) (h : Sh) (σ : Sg) (a1 : Int32) (r : Int32) (σ1 : Sg) (hF : FL_count h.1 h.2.1 σ a1 = some (r, σ1)) : MI l yL_count (wsW yL_count cL_count 4 (some .int) [(0, 9, 12, 21)]) 7 151 1 6 lo g h [.ref (h.2.2 0 0), .int a1, .ref (h.2.2 30 0)] σ r σ1 := by
  refine ofBW (own := RL) (by decide +kernel) rfl (fun p e s m below meth c C0 hr hlk hlo hK hZ hW hS htb ls hl => ?_) (Nat.le_of_ble_eq_true rfl)
  have hx := C0.1
  have hb := C0.2.1
  have hl : lv_has ls 4 [(0, .ref (h.2.2 0 0)), (1, .int a1), (2, .ref (h.2.2 30 0))] := hl
  unfold FL_count at hF
  obtain ⟨z, hz, hF⟩ := bnd hF
  refine lv_aload_n hx hb dL_count_0 rfl (lv_at hl 2 rfl) ?_
  refine lv_iconst (v := 0) hx hb dL_count_1 (by decide) ?_
  refine lv_aload_n hx hb dL_count_2 rfl (lv_at hl 0 rfl) ?_
  refine lv_iload_n hx hb dL_count_3 rfl (lv_at hl 1 rfl) ?_
  have hrun := runVX (e := e) (rest := [.int 0, .ref (h.2.2 30 0)]) (ls := ls) (pc := 4) (R := { frames := 7, cells := 1, slots := 6, locals := 151 }) (cells := 0) (slots := 0) (below := below) (meth := meth) C0 hlo hK hZ hW hS (kX4_count l hnt lo g h σ a1 z hz) wCO_X4_count wML_L_61 wIM_X4_count wSE_X4_X4_count wIN_X4 hdX4_count ⟨(Nat.le_of_ble_eq_true rfl), (Nat.le_of_ble_eq_true rfl)⟩ (recvK hK hW (al0 h 0 (by decide)) (ct0 0) rfl) rfl hl.1 rfl (Nat.le_of_ble_eq_true rfl) dL_count_4 ⟨(Nat.le_of_ble_eq_true rfl), (Nat.le_of_ble_eq_true rfl)⟩
  refine vx_calli hrun hS (fun _ _ q => q) (fun _ q => q) (fun _ _ q => q) (fun E ce q9 u t H1 locs1 ht hvm hp hB hz9 hk9 hS1 hce hcv hcl => ?_) (fun r9 v t H1 locs1 ht hvm hw hB hz9 hk9 hS1 => ?_)
  · obtain ⟨⟨k, hk1, rfl⟩, hW1⟩ := hB
    subst ht
    rw [wr_l hk1] at hF
    by_cases e0 : k = 1
    · subst e0
      refine catX C0 hK htb (pre := []) (x := (0, 9, 12, 21)) (suf := []) rfl rfl (by decide) (by decide) (by decide) hce hcv hcl ?_
      refine lv_astore_n (lv' := [(3, .ref q9), (0, .ref (h.2.2 0 0)), (1, .int a1), (2, .ref (h.2.2 30 0))]) hx hb dL_count_12 rfl hl (by decide) rfl (fun ls hl => ?_)
      refine lv_iconst (v := 1) hx hb dL_count_13 (by decide) ?_
      cases hF
      exact retI C0 hr hlk hW1 hS1 dL_count_14
    · exfalso
      simp only [e0, if_false, Option.map_none] at hF
      cases hF
  · rw [wr_r hw] at hF
    subst ht
    refine lv_i2l hx hb dL_count_7 rfl ?_
    refine lst C0 hK hB hS1 (show vp_in 0 1 by unfold vp_in; decide) dL_count_8 (fun H locs hW hS => ?_)
    refine lv_goto (tgt := 15) hx hb dL_count_9 (by decide) ?_
    refine lv_iconst (v := 0) hx hb dL_count_15 (by decide) ?_
    cases hF
    exact retI C0 hr hlk hW hS dL_count_16
theorem hdsL_sung : yL_sung.cls ≠ "java/lang/invoke/MethodHandle" ∧ yL_sung.cls ≠ "java/lang/invoke/VarHandle" ∧ (parseMethodDescriptor yL_sung.desc).map (fun d => d.parameters.length) = some 4 := by decide +kernel
def FL_sung (ns nb : Nat) (σ : Sg) (a1 : Int32) (a2 : Int32) : Option (Int32 × Sg) := (FX4_sung ns nb σ a1 a2).bind (wr (fun k => if k = 1 then some 1 else none) (Int32.toInt64))
set_option maxHeartbeats 4000000 in
theorem kL_sung (l : Launch) (hnt : l.stackTraces = false) (lo : Nat) (g : Gx) (h : Sh) (σ : Sg) (a1 : Int32) (a2 : Int32) (r : Int32) (σ1 : Sg) (hF : FL_sung h.1 h.2.1 σ a1 a2 = some (r, σ1)) : MI l yL_sung (wsW yL_sung cL_sung 5 (some .int) [(0, 10, 13, 21)]) 7 152 1 6 lo g h [.ref (h.2.2 0 0), .int a1, .int a2, .ref (h.2.2 30 0)] σ r σ1 := by
  refine ofBW (own := RL) (by decide +kernel) rfl (fun p e s m below meth c C0 hr hlk hlo hK hZ hW hS htb ls hl => ?_) (Nat.le_of_ble_eq_true rfl)
  have hx := C0.1
  have hb := C0.2.1
  have hl : lv_has ls 5 [(0, .ref (h.2.2 0 0)), (1, .int a1), (2, .int a2), (3, .ref (h.2.2 30 0))] := hl
  unfold FL_sung at hF
  obtain ⟨z, hz, hF⟩ := bnd hF
  refine lv_aload_n hx hb dL_sung_0 rfl (lv_at hl 3 rfl) ?_
  refine lv_iconst (v := 0) hx hb dL_sung_1 (by decide) ?_
  refine lv_aload_n hx hb dL_sung_2 rfl (lv_at hl 0 rfl) ?_
  refine lv_iload_n hx hb dL_sung_3 rfl (lv_at hl 1 rfl) ?_
  refine lv_iload_n hx hb dL_sung_4 rfl (lv_at hl 2 rfl) ?_
  have hrun := runVX (e := e) (rest := [.int 0, .ref (h.2.2 30 0)]) (ls := ls) (pc := 5) (R := { frames := 7, cells := 1, slots := 6, locals := 152 }) (cells := 0) (slots := 0) (below := below) (meth := meth) C0 hlo hK hZ hW hS (kX4_sung l hnt lo g h σ a1 a2 z hz) wCO_X4_sung wML_L_64 wIM_X4_sung wSE_X4_X4_sung wIN_X4 hdX4_sung ⟨(Nat.le_of_ble_eq_true rfl), (Nat.le_of_ble_eq_true rfl)⟩ (recvK hK hW (al0 h 0 (by decide)) (ct0 0) rfl) rfl hl.1 rfl (Nat.le_of_ble_eq_true rfl) dL_sung_5 ⟨(Nat.le_of_ble_eq_true rfl), (Nat.le_of_ble_eq_true rfl)⟩
  refine vx_calli hrun hS (fun _ _ q => q) (fun _ q => q) (fun _ _ q => q) (fun E ce q9 u t H1 locs1 ht hvm hp hB hz9 hk9 hS1 hce hcv hcl => ?_) (fun r9 v t H1 locs1 ht hvm hw hB hz9 hk9 hS1 => ?_)
  · obtain ⟨⟨k, hk1, rfl⟩, hW1⟩ := hB
    subst ht
    rw [wr_l hk1] at hF
    by_cases e0 : k = 1
    · subst e0
      refine catX C0 hK htb (pre := []) (x := (0, 10, 13, 21)) (suf := []) rfl rfl (by decide) (by decide) (by decide) hce hcv hcl ?_
      refine lv_astore (lv' := [(4, .ref q9), (0, .ref (h.2.2 0 0)), (1, .int a1), (2, .int a2), (3, .ref (h.2.2 30 0))]) hx hb dL_sung_13 hl (by decide) rfl (fun ls hl => ?_)
      refine lv_iconst (v := 1) hx hb dL_sung_15 (by decide) ?_
      cases hF
      exact retI C0 hr hlk hW1 hS1 dL_sung_16
    · exfalso
      simp only [e0, if_false, Option.map_none] at hF
      cases hF
  · rw [wr_r hw] at hF
    subst ht
    refine lv_i2l hx hb dL_sung_8 rfl ?_
    refine lst C0 hK hB hS1 (show vp_in 0 1 by unfold vp_in; decide) dL_sung_9 (fun H locs hW hS => ?_)
    refine lv_goto (tgt := 17) hx hb dL_sung_10 (by decide) ?_
    refine lv_iconst (v := 0) hx hb dL_sung_17 (by decide) ?_
    cases hF
    exact retI C0 hr hlk hW hS dL_sung_18
theorem hdsL_chord : yL_chord.cls ≠ "java/lang/invoke/MethodHandle" ∧ yL_chord.cls ≠ "java/lang/invoke/VarHandle" ∧ (parseMethodDescriptor yL_chord.desc).map (fun d => d.parameters.length) = some 3 := by decide +kernel
def FL_chord (ns nb : Nat) (σ : Sg) (a1 : Int32) : Option (Int32 × Sg) := (FX4_chord ns nb σ a1).bind (wr (fun k => if k = 2 then some 1 else none) (Int32.toInt64))
set_option maxHeartbeats 4000000 in
theorem kL_chord (l : Launch) (hnt : l.stackTraces = false) (lo : Nat) (g : Gx) (h : Sh) (σ : Sg) (a1 : Int32) (r : Int32) (σ1 : Sg) (hF : FL_chord h.1 h.2.1 σ a1 = some (r, σ1)) : MI l yL_chord (wsW yL_chord cL_chord 4 (some .int) [(0, 9, 12, 13)]) 7 157 1 6 lo g h [.ref (h.2.2 0 0), .int a1, .ref (h.2.2 30 0)] σ r σ1 := by
  refine ofBW (own := RL) (by decide +kernel) rfl (fun p e s m below meth c C0 hr hlk hlo hK hZ hW hS htb ls hl => ?_) (Nat.le_of_ble_eq_true rfl)
  have hx := C0.1
  have hb := C0.2.1
  have hl : lv_has ls 4 [(0, .ref (h.2.2 0 0)), (1, .int a1), (2, .ref (h.2.2 30 0))] := hl
  unfold FL_chord at hF
  obtain ⟨z, hz, hF⟩ := bnd hF
  refine lv_aload_n hx hb dL_chord_0 rfl (lv_at hl 2 rfl) ?_
  refine lv_iconst (v := 0) hx hb dL_chord_1 (by decide) ?_
  refine lv_aload_n hx hb dL_chord_2 rfl (lv_at hl 0 rfl) ?_
  refine lv_iload_n hx hb dL_chord_3 rfl (lv_at hl 1 rfl) ?_
  have hrun := runVX (e := e) (rest := [.int 0, .ref (h.2.2 30 0)]) (ls := ls) (pc := 4) (R := { frames := 7, cells := 1, slots := 6, locals := 157 }) (cells := 0) (slots := 0) (below := below) (meth := meth) C0 hlo hK hZ hW hS (kX4_chord l hnt lo g h σ a1 z hz) wCO_X4_chord wML_L_67 wIM_X4_chord wSE_X4_X4_chord wIN_X4 hdX4_chord ⟨(Nat.le_of_ble_eq_true rfl), (Nat.le_of_ble_eq_true rfl)⟩ (recvK hK hW (al0 h 0 (by decide)) (ct0 0) rfl) rfl hl.1 rfl (Nat.le_of_ble_eq_true rfl) dL_chord_4 ⟨(Nat.le_of_ble_eq_true rfl), (Nat.le_of_ble_eq_true rfl)⟩
  refine vx_calli hrun hS (fun _ _ q => q) (fun _ q => q) (fun _ _ q => q) (fun E ce q9 u t H1 locs1 ht hvm hp hB hz9 hk9 hS1 hce hcv hcl => ?_) (fun r9 v t H1 locs1 ht hvm hw hB hz9 hk9 hS1 => ?_)
  · obtain ⟨⟨k, hk1, rfl⟩, hW1⟩ := hB
    subst ht
    rw [wr_l hk1] at hF
    by_cases e0 : k = 2
    · subst e0
      refine catX C0 hK htb (pre := []) (x := (0, 9, 12, 13)) (suf := []) rfl rfl (by decide) (by decide) (by decide) hce hcv hcl ?_
      refine lv_astore_n (lv' := [(3, .ref q9), (0, .ref (h.2.2 0 0)), (1, .int a1), (2, .ref (h.2.2 30 0))]) hx hb dL_chord_12 rfl hl (by decide) rfl (fun ls hl => ?_)
      refine lv_iconst (v := 1) hx hb dL_chord_13 (by decide) ?_
      cases hF
      exact retI C0 hr hlk hW1 hS1 dL_chord_14
    · exfalso
      simp only [e0, if_false, Option.map_none] at hF
      cases hF
  · rw [wr_r hw] at hF
    subst ht
    refine lv_i2l hx hb dL_chord_7 rfl ?_
    refine lst C0 hK hB hS1 (show vp_in 0 1 by unfold vp_in; decide) dL_chord_8 (fun H locs hW hS => ?_)
    refine lv_goto (tgt := 15) hx hb dL_chord_9 (by decide) ?_
    refine lv_iconst (v := 0) hx hb dL_chord_15 (by decide) ?_
    cases hF
    exact retI C0 hr hlk hW hS dL_chord_16
theorem hdsL_runsDown : yL_runsDown.cls ≠ "java/lang/invoke/MethodHandle" ∧ yL_runsDown.cls ≠ "java/lang/invoke/VarHandle" ∧ (parseMethodDescriptor yL_runsDown.desc).map (fun d => d.parameters.length) = some 3 := by decide +kernel
def FL_runsDown (ns nb : Nat) (σ : Sg) (a1 : Int32) : Option (Int32 × Sg) := (FX4_runsDown ns nb σ a1).bind (wr (fun k => if k = 2 then some 1 else none) (Int32.toInt64))
set_option maxHeartbeats 4000000 in
theorem kL_runsDown (l : Launch) (hnt : l.stackTraces = false) (lo : Nat) (g : Gx) (h : Sh) (σ : Sg) (a1 : Int32) (r : Int32) (σ1 : Sg) (hF : FL_runsDown h.1 h.2.1 σ a1 = some (r, σ1)) : MI l yL_runsDown (wsW yL_runsDown cL_runsDown 4 (some .int) [(0, 9, 12, 13)]) 7 174 1 6 lo g h [.ref (h.2.2 0 0), .int a1, .ref (h.2.2 30 0)] σ r σ1 := by
  refine ofBW (own := RL) (by decide +kernel) rfl (fun p e s m below meth c C0 hr hlk hlo hK hZ hW hS htb ls hl => ?_) (Nat.le_of_ble_eq_true rfl)
  have hx := C0.1
  have hb := C0.2.1
  have hl : lv_has ls 4 [(0, .ref (h.2.2 0 0)), (1, .int a1), (2, .ref (h.2.2 30 0))] := hl
  unfold FL_runsDown at hF
  obtain ⟨z, hz, hF⟩ := bnd hF
  refine lv_aload_n hx hb dL_runsDown_0 rfl (lv_at hl 2 rfl) ?_
  refine lv_iconst (v := 0) hx hb dL_runsDown_1 (by decide) ?_
  refine lv_aload_n hx hb dL_runsDown_2 rfl (lv_at hl 0 rfl) ?_
  refine lv_iload_n hx hb dL_runsDown_3 rfl (lv_at hl 1 rfl) ?_
  have hrun := runVX (e := e) (rest := [.int 0, .ref (h.2.2 30 0)]) (ls := ls) (pc := 4) (R := { frames := 7, cells := 1, slots := 6, locals := 174 }) (cells := 0) (slots := 0) (below := below) (meth := meth) C0 hlo hK hZ hW hS (kX4_runsDown l hnt lo g h σ a1 z hz) wCO_X4_runsDown wML_L_70 wIM_X4_runsDown wSE_X4_X4_runsDown wIN_X4 hdX4_runsDown ⟨(Nat.le_of_ble_eq_true rfl), (Nat.le_of_ble_eq_true rfl)⟩ (recvK hK hW (al0 h 0 (by decide)) (ct0 0) rfl) rfl hl.1 rfl (Nat.le_of_ble_eq_true rfl) dL_runsDown_4 ⟨(Nat.le_of_ble_eq_true rfl), (Nat.le_of_ble_eq_true rfl)⟩
  refine vx_calli hrun hS (fun _ _ q => q) (fun _ q => q) (fun _ _ q => q) (fun E ce q9 u t H1 locs1 ht hvm hp hB hz9 hk9 hS1 hce hcv hcl => ?_) (fun r9 v t H1 locs1 ht hvm hw hB hz9 hk9 hS1 => ?_)
  · obtain ⟨⟨k, hk1, rfl⟩, hW1⟩ := hB
    subst ht
    rw [wr_l hk1] at hF
    by_cases e0 : k = 2
    · subst e0
      refine catX C0 hK htb (pre := []) (x := (0, 9, 12, 13)) (suf := []) rfl rfl (by decide) (by decide) (by decide) hce hcv hcl ?_
      refine lv_astore_n (lv' := [(3, .ref q9), (0, .ref (h.2.2 0 0)), (1, .int a1), (2, .ref (h.2.2 30 0))]) hx hb dL_runsDown_12 rfl hl (by decide) rfl (fun ls hl => ?_)
      refine lv_iconst (v := 1) hx hb dL_runsDown_13 (by decide) ?_
      cases hF
      exact retI C0 hr hlk hW1 hS1 dL_runsDown_14
    · exfalso
      simp only [e0, if_false, Option.map_none] at hF
      cases hF
  · rw [wr_r hw] at hF
    subst ht
    refine lv_i2l hx hb dL_runsDown_7 rfl ?_
    refine lst C0 hK hB hS1 (show vp_in 0 1 by unfold vp_in; decide) dL_runsDown_8 (fun H locs hW hS => ?_)
    refine lv_goto (tgt := 15) hx hb dL_runsDown_9 (by decide) ?_
    refine lv_iconst (v := 0) hx hb dL_runsDown_15 (by decide) ?_
    cases hF
    exact retI C0 hr hlk hW hS dL_runsDown_16
