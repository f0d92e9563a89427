set_option maxHeartbeats 4000000 in
set_option maxRecDepth 100000 in
theorem hX5_sp (l : Launch) (lo : Nat) (g : Gx) (h : Sh) (σ : Sg) (a1 : Int32) (a2 : Int32)  (r : Int32) (σ1 : Sg) (hF : FX5_sp h.1 h.2.1 σ a1 a2 = some (r, σ1)) : Met l yX5_sp (ws_ yX5_sp cX5_sp 3 (some .int)) { frames := 0, cells := 0, slots := 0, locals := 0 } (va_Pc [.ref (h.2.2 20 0), .int a1, .int a2] (WD lo g h σ)) (fun _ st oc t => oc = .returned (some (.int r)) ∧ t.heap = st.heap) 0 0 (fun _ => False) := by
  refine ofBH (own := RX5) (by decide +kernel) rfl (fun p e s m below meth c C0 hr hlk hlo hK hZ hW hS ls hl => ?_) (Nat.le_of_ble_eq_true rfl)
  have hx := C0.1
  have hb := C0.2.1
  have hl : lv_has ls 3 [(0, .ref (h.2.2 20 0)), (1, .int a1), (2, .int a2)] := hl
  unfold FX5_sp at hF
  refine lv_aload_n hx hb dX5_sp_0 rfl (lv_at hl 0 rfl) ?_
  refine get20 C0 hK hW 0 (al20 h 20 (by decide)) 4 (by decide) wFL_X5_9 rfl rfl dX5_sp_1 ?_
  refine lv_iconst (v := 5) hx hb dX5_sp_4 (by decide) ?_
  refine lv_iload_n hx hb dX5_sp_5 rfl (lv_at hl 1 rfl) ?_
  refine lv_imul hx hb dX5_sp_6 ?_
  refine lv_iload_n hx hb dX5_sp_7 rfl (lv_at hl 2 rfl) ?_
  refine lv_iadd hx hb dX5_sp_8 ?_
  obtain ⟨hg, hF⟩ := grd hF
  refine ald C0 hK hW 21 0 (al20 h 21 (by decide)) (by decide) hg dX5_sp_9 ?_
  cases hF
  exact retIH C0 hr hlk dX5_sp_10
theorem hdX5_addBird : yX5_addBird.cls = RX5 ∧ yX5_addBird.cls ≠ "java/lang/invoke/MethodHandle" ∧ yX5_addBird.cls ≠ "java/lang/invoke/VarHandle" ∧ (parseMethodDescriptor yX5_addBird.desc).map (fun d => d.parameters.length) = some 5 := by decide +kernel
def LX5_addBird_167 (ns nb : Nat) : Nat → Int32 → Sg → Option (Sg)
  | 0, _, _ => none
  | n + 1, v7, σ => if 6 ≤ v7 then (some (σ)) else (if (((6 * (σ.1 20 0 3)) + v7) < 0 ∨ 48 ≤ ((6 * (σ.1 20 0 3)) + v7).toNatClampNeg) then none else (LX5_addBird_167 ns nb  n (v7 + 1) (sI σ 25 0 ((6 * (σ.1 20 0 3)) + v7).toNatClampNeg (60 + (2 * v7)))))
def LX5_addBird_205 (ns nb : Nat) : Nat → Int32 → Sg → Option (Sg)
  | 0, _, _ => none
  | n + 1, v7, σ => if 288 ≤ v7 then (some (σ)) else (if (((288 * (σ.1 20 0 3)) + v7) < 0 ∨ 2304 ≤ ((288 * (σ.1 20 0 3)) + v7).toNatClampNeg) then none else (LX5_addBird_205 ns nb  n (v7 + 1) (sI σ 26 0 ((288 * (σ.1 20 0 3)) + v7).toNatClampNeg (-1))))
def FX5_addBird (ns nb : Nat) (σ : Sg) (a1 : Int32) (a2 : Int32) (a3 : Int32) (a4 : Int32) (a5 : Int32) : Option (Int32 × Sg) :=
  (FX5_isSpring ns nb (sI σ 20 0 0 0) a1).bind fun z1 => if z1.1 = 0 then ((FX5_fail ns nb z1.2 1).bind fun z22 => some (z22.1, z22.2)) else ((FX5_isIn ns nb z1.2 a2 0 20).bind fun z3 => if z3.1 = 0 then ((FX5_fail ns nb z3.2 2).bind fun z5 => some (z5.1, z5.2)) else ((FX5_isIn ns nb z3.2 a3 8 96).bind fun z6 => if z6.1 = 0 then ((FX5_fail ns nb z6.2 2).bind fun z8 => some (z8.1, z8.2)) else ((FX5_isIn ns nb z6.2 a4 1 12).bind fun z9 => if z9.1 = 0 then ((FX5_fail ns nb z9.2 2).bind fun z11 => some (z11.1, z11.2)) else ((FX5_isIn ns nb z9.2 a5 1 12).bind fun z12 => if z12.1 = 0 then ((FX5_fail ns nb z12.2 2).bind fun z21 => some (z21.1, z21.2)) else (if (z12.2.1 20 0 3) = 8 then ((FX5_fail ns nb z12.2 3).bind fun z20 => some (z20.1, z20.2)) else ((FX5_sp ns nb z12.2 a1 2).bind fun z15 => if (¬ (11 * (z12.2.1 20 0 3)) < 0 ∧ (11 * (z12.2.1 20 0 3)).toNatClampNeg + (11 : Int32).toNatClampNeg ≤ aln 22) then ((LX5_addBird_167 ns nb  4100 0 (sC z12.2 22 (va_cpy (upd (upd (upd (upd (upd (upd (upd (upd (upd (upd (upd (fun _ => 0) (0 : Int32).toNatClampNeg a1) (1 : Int32).toNatClampNeg a2) (2 : Int32).toNatClampNeg a3) (3 : Int32).toNatClampNeg a4) (4 : Int32).toNatClampNeg a5) (5 : Int32).toNatClampNeg 0) (6 : Int32).toNatClampNeg 1) (7 : Int32).toNatClampNeg 0) (8 : Int32).toNatClampNeg 0) (9 : Int32).toNatClampNeg 0) (10 : Int32).toNatClampNeg z15.1) (z12.2.1 22 0) (0 : Int32).toNatClampNeg (11 * (z12.2.1 20 0 3)).toNatClampNeg (11 : Int32).toNatClampNeg))).bind fun z17 => (LX5_addBird_205 ns nb  4100 0 z17).bind fun z19 => some (((sI z19 20 0 3 ((z19.1 20 0 3) + 1)).1 20 0 3) - 1, (sI z19 20 0 3 ((z19.1 20 0 3) + 1)))) else none))))))
set_option maxHeartbeats 4000000 in
set_option maxRecDepth 100000 in
theorem lX5_addBird_167 {p : Program} {l : Launch} {e : Env} {s : State} {m : MethodId} {args : Array Value} {below : List Frame} {meth : Method} {c : Code} {Q : State → Prop} {lo : Nat} {g : Gx} {h : Sh} (C0 : CallFix p m c cX5_addBird 8 s args wB RX5) (hlo : lo ≤ s.heap.size) (hK : KW g s) (hZ : ZW lo s s.heap)   : ∀ (n : Nat) (v7 : Int32) (σ : Sg) (z : (Sg)) (hF : LX5_addBird_167 h.1 h.2.1  n v7 σ = some z) (H : Heap) (locs : List Loc) (ls : Array Slot) (hW : FW g h (Ax lo) σ H) (hS : va_S (Ax lo) s.heap H locs) (hl : lv_has ls 8 [(0, .ref (h.2.2 20 0)), (7, .int v7)]) (kk : ∀ (H : Heap) (locs : List Loc) (ls : Array Slot), FW g h (Ax lo) z H → va_S (Ax lo) s.heap H locs → lv_has ls 8 [(0, .ref (h.2.2 20 0))] → W p l e { frames := 2, cells := 1, slots := 11, locals := 60 } s m args below meth c H locs 1 11 Q (F0 m 202 ls [])), W p l e { frames := 2, cells := 1, slots := 11, locals := 60 } s m args below meth c H locs 1 11 Q (F0 m 167 ls []) := by
  have hx := C0.1
  have hb := C0.2.1
  intro n
  induction n with
  | zero =>
    intro v7 σ z hF
    rw [LX5_addBird_167] at hF
    cases hF
  | succ n ih =>
    intro v7 σ z hF H locs ls hW hS hl kk
    rw [LX5_addBird_167] at hF
    refine lv_iload hx hb dX5_addBird_167 (lv_at hl 1 rfl) ?_
    refine lv_bipush (v := 6) hx hb dX5_addBird_169 (by decide) ?_
    refine lv_icmp_ge (tgt := 202) hx hb dX5_addBird_171 (by decide) (fun c16 => ?_) (fun c16 => ?_)
    · rw [if_pos c16] at hF
      cases hF
      exact kk _ _ _ hW hS (lv_sub hl [0] rfl)
    · rw [if_neg c16] at hF
      refine lv_aload_n hx hb dX5_addBird_174 rfl (lv_at hl 0 rfl) ?_
      refine get20 C0 hK hW 0 (al20 h 20 (by decide)) 8 (by decide) wFL_X5_23 rfl rfl dX5_addBird_175 ?_
      refine lv_bipush (v := 6) hx hb dX5_addBird_178 (by decide) ?_
      refine lv_aload_n hx hb dX5_addBird_180 rfl (lv_at hl 0 rfl) ?_
      refine get20 C0 hK hW 0 (al20 h 20 (by decide)) 3 (by decide) wFL_X5_49 rfl rfl dX5_addBird_181 ?_
      refine lv_imul hx hb dX5_addBird_184 ?_
      refine lv_iload hx hb dX5_addBird_185 (lv_at hl 1 rfl) ?_
      refine lv_iadd hx hb dX5_addBird_187 ?_
      refine lv_bipush (v := 60) hx hb dX5_addBird_188 (by decide) ?_
      refine lv_iconst (v := 2) hx hb dX5_addBird_190 (by decide) ?_
      refine lv_iload hx hb dX5_addBird_191 (lv_at hl 1 rfl) ?_
      refine lv_imul hx hb dX5_addBird_193 ?_
      refine lv_iadd hx hb dX5_addBird_194 ?_
      obtain ⟨hg, hF⟩ := grd hF
      refine ast C0 hK hW hS 25 0 (al20 h 25 (by decide)) (by decide) hg dX5_addBird_195 (fun H locs hW hS => ?_)
      refine lv_iinc (v := v7 + 1) (lv' := [(7, .int (v7 + 1)), (0, .ref (h.2.2 20 0))]) hx hb dX5_addBird_196 hl (k := 1) rfl rfl (by decide) rfl (fun ls hl => ?_)
      refine lv_goto (tgt := 167) hx hb dX5_addBird_199 (by decide) ?_
      exact ih (v7 + 1) (sI σ 25 0 ((6 * (σ.1 20 0 3)) + v7).toNatClampNeg (60 + (2 * v7))) z hF _ _ _ hW hS (lv_sub hl [1, 0] rfl) kk
set_option maxHeartbeats 4000000 in
set_option maxRecDepth 100000 in
theorem lX5_addBird_205 {p : Program} {l : Launch} {e : Env} {s : State} {m : MethodId} {args : Array Value} {below : List Frame} {meth : Method} {c : Code} {Q : State → Prop} {lo : Nat} {g : Gx} {h : Sh} (C0 : CallFix p m c cX5_addBird 8 s args wB RX5) (hlo : lo ≤ s.heap.size) (hK : KW g s) (hZ : ZW lo s s.heap)   : ∀ (n : Nat) (v7 : Int32) (σ : Sg) (z : (Sg)) (hF : LX5_addBird_205 h.1 h.2.1  n v7 σ = some z) (H : Heap) (locs : List Loc) (ls : Array Slot) (hW : FW g h (Ax lo) σ H) (hS : va_S (Ax lo) s.heap H locs) (hl : lv_has ls 8 [(0, .ref (h.2.2 20 0)), (7, .int v7)]) (kk : ∀ (H : Heap) (locs : List Loc) (ls : Array Slot), FW g h (Ax lo) z H → va_S (Ax lo) s.heap H locs → lv_has ls 8 [(0, .ref (h.2.2 20 0))] → W p l e { frames := 2, cells := 1, slots := 11, locals := 60 } s m args below meth c H locs 1 11 Q (F0 m 236 ls [])), W p l e { frames := 2, cells := 1, slots := 11, locals := 60 } s m args below meth c H locs 1 11 Q (F0 m 205 ls []) := by
  have hx := C0.1
  have hb := C0.2.1
  intro n
  induction n with
  | zero =>
    intro v7 σ z hF
    rw [LX5_addBird_205] at hF
    cases hF
  | succ n ih =>
    intro v7 σ z hF H locs ls hW hS hl kk
    rw [LX5_addBird_205] at hF
    refine lv_iload hx hb dX5_addBird_205 (lv_at hl 1 rfl) ?_
    refine lv_sipush (v := 288) hx hb dX5_addBird_207 (by decide) ?_
    refine lv_icmp_ge (tgt := 236) hx hb dX5_addBird_210 (by decide) (fun c18 => ?_) (fun c18 => ?_)
    · rw [if_pos c18] at hF
      cases hF
      exact kk _ _ _ hW hS (lv_sub hl [0] rfl)
    · rw [if_neg c18] at hF
      refine lv_aload_n hx hb dX5_addBird_213 rfl (lv_at hl 0 rfl) ?_
      refine get20 C0 hK hW 0 (al20 h 20 (by decide)) 9 (by decide) wFL_X5_26 rfl rfl dX5_addBird_214 ?_
      refine lv_sipush (v := 288) hx hb dX5_addBird_217 (by decide) ?_
      refine lv_aload_n hx hb dX5_addBird_220 rfl (lv_at hl 0 rfl) ?_
      refine get20 C0 hK hW 0 (al20 h 20 (by decide)) 3 (by decide) wFL_X5_49 rfl rfl dX5_addBird_221 ?_
      refine lv_imul hx hb dX5_addBird_224 ?_
      refine lv_iload hx hb dX5_addBird_225 (lv_at hl 1 rfl) ?_
      refine lv_iadd hx hb dX5_addBird_227 ?_
      refine lv_iconst (v := (-1)) hx hb dX5_addBird_228 (by decide) ?_
      obtain ⟨hg, hF⟩ := grd hF
      refine ast C0 hK hW hS 26 0 (al20 h 26 (by decide)) (by decide) hg dX5_addBird_229 (fun H locs hW hS => ?_)
      refine lv_iinc (v := v7 + 1) (lv' := [(7, .int (v7 + 1)), (0, .ref (h.2.2 20 0))]) hx hb dX5_addBird_230 hl (k := 1) rfl rfl (by decide) rfl (fun ls hl => ?_)
      refine lv_goto (tgt := 205) hx hb dX5_addBird_233 (by decide) ?_
      exact ih (v7 + 1) (sI σ 26 0 ((288 * (σ.1 20 0 3)) + v7).toNatClampNeg (-1)) z hF _ _ _ hW hS (lv_sub hl [1, 0] rfl) kk
set_option maxHeartbeats 4000000 in
set_option maxRecDepth 100000 in
theorem kX5_addBird (l : Launch) (lo : Nat) (g : Gx) (h : Sh) (σ : Sg) (a1 : Int32) (a2 : Int32) (a3 : Int32) (a4 : Int32) (a5 : Int32)  (r : Int32) (σ1 : Sg) (hF : FX5_addBird h.1 h.2.1 σ a1 a2 a3 a4 a5 = some (r, σ1)) : MI l yX5_addBird (ws_ yX5_addBird cX5_addBird 8 (some .int)) 2 60 1 11 lo g h [.ref (h.2.2 20 0), .int a1, .int a2, .int a3, .int a4, .int a5] σ r σ1 := by
  refine ofB (own := RX5) (by decide +kernel) rfl (fun p e s m below meth c C0 hr hlk hlo hK hZ hW hS ls hl => ?_) (Nat.le_of_ble_eq_true rfl)
  have hx := C0.1
  have hb := C0.2.1
  have hl : lv_has ls 8 [(0, .ref (h.2.2 20 0)), (1, .int a1), (2, .int a2), (3, .int a3), (4, .int a4), (5, .int a5)] := hl
  unfold FX5_addBird at hF
  refine lv_aload_n hx hb dX5_addBird_0 rfl (lv_at hl 0 rfl) ?_
  refine lv_iconst (v := 0) hx hb dX5_addBird_1 (by decide) ?_
  refine put20_0 C0 hK hW hS 0 (al20 h 20 (by decide)) wFL_X5_38 dX5_addBird_2 (fun H locs hW hS => ?_)
  refine lv_aload_n hx hb dX5_addBird_5 rfl (lv_at hl 0 rfl) ?_
  refine lv_iload_n hx hb dX5_addBird_6 rfl (lv_at hl 1 rfl) ?_
  obtain ⟨z1, hz1, hF⟩ := bnd hF
  refine inI (runV C0 hlo hK hZ hW hS (kX5_isSpring l lo g h _ a1  _ _ hz1) wCO_X5_isSpring wML_X5_56 wIM_X5_isSpring wSE_X5_X5_isSpring wIN_X5 hdX5_isSpring ⟨Nat.le_of_ble_eq_true rfl, Nat.le_of_ble_eq_true rfl⟩ (recvK hK hW (al20 h 20 (by decide)) (ct20 0) rfl) rfl hl.1 rfl (Nat.le_of_ble_eq_true rfl) dX5_addBird_7 ⟨Nat.le_of_ble_eq_true rfl, Nat.le_of_ble_eq_true rfl⟩) hS (fun H locs hW hS => ?_)
  refine lv_if_ne (tgt := 19) hx hb dX5_addBird_10 (by decide) (fun c2 => ?_) (fun c2 => ?_)
  · rw [if_neg c2] at hF
    refine lv_iload_n hx hb dX5_addBird_19 rfl (lv_at hl 2 rfl) ?_
    refine lv_iconst (v := 0) hx hb dX5_addBird_20 (by decide) ?_
    refine lv_bipush (v := 20) hx hb dX5_addBird_21 (by decide) ?_
    obtain ⟨z3, hz3, hF⟩ := bnd hF
    refine inI (runS C0 hlo hK hZ hW hS (kX5_isIn l lo g h _ a2 0 20  _ _ hz3) wCO_X5_isIn wML_X5_45 wST_X5_isIn wIN_X5 hdsX5_isIn ⟨Nat.le_of_ble_eq_true rfl, Nat.le_of_ble_eq_true rfl⟩ rfl hl.1 rfl (Nat.le_of_ble_eq_true rfl) dX5_addBird_23 ⟨Nat.le_of_ble_eq_true rfl, Nat.le_of_ble_eq_true rfl⟩) hS (fun H locs hW hS => ?_)
    refine lv_if_eq (tgt := 62) hx hb dX5_addBird_26 (by decide) (fun c4 => ?_) (fun c4 => ?_)
    · rw [if_pos c4] at hF
      refine lv_aload_n hx hb dX5_addBird_62 rfl (lv_at hl 0 rfl) ?_
      refine lv_iconst (v := 2) hx hb dX5_addBird_63 (by decide) ?_
      obtain ⟨z5, hz5, hF⟩ := bnd hF
      refine inI (runV C0 hlo hK hZ hW hS (kX5_fail l lo g h _ 2  _ _ hz5) wCO_X5_fail wML_X5_52 wIM_X5_fail wSE_X5_X5_fail wIN_X5 hdX5_fail ⟨Nat.le_of_ble_eq_true rfl, Nat.le_of_ble_eq_true rfl⟩ (recvK hK hW (al20 h 20 (by decide)) (ct20 0) rfl) rfl hl.1 rfl (Nat.le_of_ble_eq_true rfl) dX5_addBird_64 ⟨Nat.le_of_ble_eq_true rfl, Nat.le_of_ble_eq_true rfl⟩) hS (fun H locs hW hS => ?_)
      cases hF
      refine W.widen (k := 1) (n := 11) (Nat.le_of_ble_eq_true rfl) (Nat.le_of_ble_eq_true rfl) ?_
      exact retI C0 hr hlk hW hS dX5_addBird_67
    · rw [if_neg c4] at hF
      refine lv_iload_n hx hb dX5_addBird_29 rfl (lv_at hl 3 rfl) ?_
      refine lv_bipush (v := 8) hx hb dX5_addBird_30 (by decide) ?_
      refine lv_bipush (v := 96) hx hb dX5_addBird_32 (by decide) ?_
      obtain ⟨z6, hz6, hF⟩ := bnd hF
      refine inI (runS C0 hlo hK hZ hW hS (kX5_isIn l lo g h _ a3 8 96  _ _ hz6) wCO_X5_isIn wML_X5_45 wST_X5_isIn wIN_X5 hdsX5_isIn ⟨Nat.le_of_ble_eq_true rfl, Nat.le_of_ble_eq_true rfl⟩ rfl hl.1 rfl (Nat.le_of_ble_eq_true rfl) dX5_addBird_34 ⟨Nat.le_of_ble_eq_true rfl, Nat.le_of_ble_eq_true rfl⟩) hS (fun H locs hW hS => ?_)
      refine lv_if_eq (tgt := 62) hx hb dX5_addBird_37 (by decide) (fun c7 => ?_) (fun c7 => ?_)
      · rw [if_pos c7] at hF
        refine lv_aload_n hx hb dX5_addBird_62 rfl (lv_at hl 0 rfl) ?_
        refine lv_iconst (v := 2) hx hb dX5_addBird_63 (by decide) ?_
        obtain ⟨z8, hz8, hF⟩ := bnd hF
        refine inI (runV C0 hlo hK hZ hW hS (kX5_fail l lo g h _ 2  _ _ hz8) wCO_X5_fail wML_X5_52 wIM_X5_fail wSE_X5_X5_fail wIN_X5 hdX5_fail ⟨Nat.le_of_ble_eq_true rfl, Nat.le_of_ble_eq_true rfl⟩ (recvK hK hW (al20 h 20 (by decide)) (ct20 0) rfl) rfl hl.1 rfl (Nat.le_of_ble_eq_true rfl) dX5_addBird_64 ⟨Nat.le_of_ble_eq_true rfl, Nat.le_of_ble_eq_true rfl⟩) hS (fun H locs hW hS => ?_)
        cases hF
        refine W.widen (k := 1) (n := 11) (Nat.le_of_ble_eq_true rfl) (Nat.le_of_ble_eq_true rfl) ?_
        exact retI C0 hr hlk hW hS dX5_addBird_67
      · rw [if_neg c7] at hF
        refine lv_iload hx hb dX5_addBird_40 (lv_at hl 4 rfl) ?_
        refine lv_iconst (v := 1) hx hb dX5_addBird_42 (by decide) ?_
        refine lv_bipush (v := 12) hx hb dX5_addBird_43 (by decide) ?_
        obtain ⟨z9, hz9, hF⟩ := bnd hF
        refine inI (runS C0 hlo hK hZ hW hS (kX5_isIn l lo g h _ a4 1 12  _ _ hz9) wCO_X5_isIn wML_X5_45 wST_X5_isIn wIN_X5 hdsX5_isIn ⟨Nat.le_of_ble_eq_true rfl, Nat.le_of_ble_eq_true rfl⟩ rfl hl.1 rfl (Nat.le_of_ble_eq_true rfl) dX5_addBird_45 ⟨Nat.le_of_ble_eq_true rfl, Nat.le_of_ble_eq_true rfl⟩) hS (fun H locs hW hS => ?_)
        refine lv_if_eq (tgt := 62) hx hb dX5_addBird_48 (by decide) (fun c10 => ?_) (fun c10 => ?_)
        · rw [if_pos c10] at hF
          refine lv_aload_n hx hb dX5_addBird_62 rfl (lv_at hl 0 rfl) ?_
          refine lv_iconst (v := 2) hx hb dX5_addBird_63 (by decide) ?_
          obtain ⟨z11, hz11, hF⟩ := bnd hF
          refine inI (runV C0 hlo hK hZ hW hS (kX5_fail l lo g h _ 2  _ _ hz11) wCO_X5_fail wML_X5_52 wIM_X5_fail wSE_X5_X5_fail wIN_X5 hdX5_fail ⟨Nat.le_of_ble_eq_true rfl, Nat.le_of_ble_eq_true rfl⟩ (recvK hK hW (al20 h 20 (by decide)) (ct20 0) rfl) rfl hl.1 rfl (Nat.le_of_ble_eq_true rfl) dX5_addBird_64 ⟨Nat.le_of_ble_eq_true rfl, Nat.le_of_ble_eq_true rfl⟩) hS (fun H locs hW hS => ?_)
          cases hF
          refine W.widen (k := 1) (n := 11) (Nat.le_of_ble_eq_true rfl) (Nat.le_of_ble_eq_true rfl) ?_
          exact retI C0 hr hlk hW hS dX5_addBird_67
        · rw [if_neg c10] at hF
          refine lv_iload hx hb dX5_addBird_51 (lv_at hl 5 rfl) ?_
          refine lv_iconst (v := 1) hx hb dX5_addBird_53 (by decide) ?_
          refine lv_bipush (v := 12) hx hb dX5_addBird_54 (by decide) ?_
          obtain ⟨z12, hz12, hF⟩ := bnd hF
          refine inI (runS C0 hlo hK hZ hW hS (kX5_isIn l lo g h _ a5 1 12  _ _ hz12) wCO_X5_isIn wML_X5_45 wST_X5_isIn wIN_X5 hdsX5_isIn ⟨Nat.le_of_ble_eq_true rfl, Nat.le_of_ble_eq_true rfl⟩ rfl hl.1 rfl (Nat.le_of_ble_eq_true rfl) dX5_addBird_56 ⟨Nat.le_of_ble_eq_true rfl, Nat.le_of_ble_eq_true rfl⟩) hS (fun H locs hW hS => ?_)
          refine lv_if_ne (tgt := 68) hx hb dX5_addBird_59 (by decide) (fun c13 => ?_) (fun c13 => ?_)
          · rw [if_neg c13] at hF
            refine lv_aload_n hx hb dX5_addBird_68 rfl (lv_at hl 0 rfl) ?_
            refine get20 C0 hK hW 0 (al20 h 20 (by decide)) 3 (by decide) wFL_X5_49 rfl rfl dX5_addBird_69 ?_
            refine lv_bipush (v := 8) hx hb dX5_addBird_72 (by decide) ?_
            refine lv_icmp_ne (tgt := 83) hx hb dX5_addBird_74 (by decide) (fun c14 => ?_) (fun c14 => ?_)
            · rw [if_neg c14] at hF
              refine lv_bipush (v := 11) hx hb dX5_addBird_83 (by decide) ?_
              refine newT C0 hK hW hS (fun q hq => Nat.le_trans hlo hq) (N := 11) (by decide) (by decide) (by decide) (Nat.le_of_ble_eq_true rfl) (Nat.le_of_ble_eq_true rfl) dX5_addBird_85 (fun qT H hT hS => ?_)
              have hW := hT.W
              refine lv_dup hx hb dX5_addBird_87 rfl ?_
              refine lv_iconst (v := 0) hx hb dX5_addBird_88 (by decide) ?_
              refine lv_iload_n hx hb dX5_addBird_89 rfl (lv_at hl 1 rfl) ?_
              refine astT C0 hK hT hS (show vp_in 0 11 by unfold vp_in; decide) dX5_addBird_90 (fun H locs hT hS => ?_)
              have hW := hT.W
              refine lv_dup hx hb dX5_addBird_91 rfl ?_
              refine lv_iconst (v := 1) hx hb dX5_addBird_92 (by decide) ?_
              refine lv_iload_n hx hb dX5_addBird_93 rfl (lv_at hl 2 rfl) ?_
              refine astT C0 hK hT hS (show vp_in 1 11 by unfold vp_in; decide) dX5_addBird_94 (fun H locs hT hS => ?_)
              have hW := hT.W
              refine lv_dup hx hb dX5_addBird_95 rfl ?_
              refine lv_iconst (v := 2) hx hb dX5_addBird_96 (by decide) ?_
              refine lv_iload_n hx hb dX5_addBird_97 rfl (lv_at hl 3 rfl) ?_
              refine astT C0 hK hT hS (show vp_in 2 11 by unfold vp_in; decide) dX5_addBird_98 (fun H locs hT hS => ?_)
              have hW := hT.W
              refine lv_dup hx hb dX5_addBird_99 rfl ?_
              refine lv_iconst (v := 3) hx hb dX5_addBird_100 (by decide) ?_
              refine lv_iload hx hb dX5_addBird_101 (lv_at hl 4 rfl) ?_
              refine astT C0 hK hT hS (show vp_in 3 11 by unfold vp_in; decide) dX5_addBird_103 (fun H locs hT hS => ?_)
              have hW := hT.W
              refine lv_dup hx hb dX5_addBird_104 rfl ?_
              refine lv_iconst (v := 4) hx hb dX5_addBird_105 (by decide) ?_
              refine lv_iload hx hb dX5_addBird_106 (lv_at hl 5 rfl) ?_
              refine astT C0 hK hT hS (show vp_in 4 11 by unfold vp_in; decide) dX5_addBird_108 (fun H locs hT hS => ?_)
              have hW := hT.W
              refine lv_dup hx hb dX5_addBird_109 rfl ?_
              refine lv_iconst (v := 5) hx hb dX5_addBird_110 (by decide) ?_
              refine lv_iconst (v := 0) hx hb dX5_addBird_111 (by decide) ?_
              refine astT C0 hK hT hS (show vp_in 5 11 by unfold vp_in; decide) dX5_addBird_112 (fun H locs hT hS => ?_)
              have hW := hT.W
              refine lv_dup hx hb dX5_addBird_113 rfl ?_
              refine lv_bipush (v := 6) hx hb dX5_addBird_114 (by decide) ?_
              refine lv_iconst (v := 1) hx hb dX5_addBird_116 (by decide) ?_
              refine astT C0 hK hT hS (show vp_in 6 11 by unfold vp_in; decide) dX5_addBird_117 (fun H locs hT hS => ?_)
              have hW := hT.W
              refine lv_dup hx hb dX5_addBird_118 rfl ?_
              refine lv_bipush (v := 7) hx hb dX5_addBird_119 (by decide) ?_
              refine lv_iconst (v := 0) hx hb dX5_addBird_121 (by decide) ?_
              refine astT C0 hK hT hS (show vp_in 7 11 by unfold vp_in; decide) dX5_addBird_122 (fun H locs hT hS => ?_)
              have hW := hT.W
              refine lv_dup hx hb dX5_addBird_123 rfl ?_
              refine lv_bipush (v := 8) hx hb dX5_addBird_124 (by decide) ?_
              refine lv_iconst (v := 0) hx hb dX5_addBird_126 (by decide) ?_
              refine astT C0 hK hT hS (show vp_in 8 11 by unfold vp_in; decide) dX5_addBird_127 (fun H locs hT hS => ?_)
              have hW := hT.W
              refine lv_dup hx hb dX5_addBird_128 rfl ?_
              refine lv_bipush (v := 9) hx hb dX5_addBird_129 (by decide) ?_
              refine lv_iconst (v := 0) hx hb dX5_addBird_131 (by decide) ?_
              refine astT C0 hK hT hS (show vp_in 9 11 by unfold vp_in; decide) dX5_addBird_132 (fun H locs hT hS => ?_)
              have hW := hT.W
              refine lv_dup hx hb dX5_addBird_133 rfl ?_
              refine lv_bipush (v := 10) hx hb dX5_addBird_134 (by decide) ?_
              refine lv_aload_n hx hb dX5_addBird_136 rfl (lv_at hl 0 rfl) ?_
              refine lv_iload_n hx hb dX5_addBird_137 rfl (lv_at hl 1 rfl) ?_
              refine lv_iconst (v := 2) hx hb dX5_addBird_138 (by decide) ?_
              obtain ⟨z15, hz15, hF⟩ := bnd hF
              refine inH (runVH C0 hlo hK hZ hW hS (hX5_sp l lo g h _ a1 2  _ _ hz15) wCO_X5_sp wML_X5_67 wIM_X5_sp wSE_X5_X5_sp wIN_X5 hdX5_sp ⟨Nat.le_of_ble_eq_true rfl, Nat.le_of_ble_eq_true rfl⟩ (recvK hK hW (al20 h 20 (by decide)) (ct20 0) rfl) rfl hl.1 rfl (Nat.le_of_ble_eq_true rfl) dX5_addBird_139 ⟨Nat.le_of_ble_eq_true rfl, Nat.le_of_ble_eq_true rfl⟩) ?_
              refine astT C0 hK hT hS (show vp_in 10 11 by unfold vp_in; decide) dX5_addBird_142 (fun H locs hT hS => ?_)
              have hW := hT.W
              refine lv_astore (lv' := [(6, .ref qT), (0, .ref (h.2.2 20 0)), (1, .int a1), (2, .int a2), (3, .int a3), (4, .int a4), (5, .int a5)]) hx hb dX5_addBird_143 hl (by decide) rfl (fun ls hl => ?_)
              refine lv_aload hx hb dX5_addBird_145 (lv_at hl 0 rfl) ?_
              refine lv_iconst (v := 0) hx hb dX5_addBird_147 (by decide) ?_
              refine lv_aload_n hx hb dX5_addBird_148 rfl (lv_at hl 1 rfl) ?_
              refine get20 C0 hK hW 0 (al20 h 20 (by decide)) 5 (by decide) wFL_X5_13 rfl rfl dX5_addBird_149 ?_
              refine lv_bipush (v := 11) hx hb dX5_addBird_152 (by decide) ?_
              refine lv_aload_n hx hb dX5_addBird_154 rfl (lv_at hl 1 rfl) ?_
              refine get20 C0 hK hW 0 (al20 h 20 (by decide)) 3 (by decide) wFL_X5_49 rfl rfl dX5_addBird_155 ?_
              refine lv_imul hx hb dX5_addBird_158 ?_
              refine lv_bipush (v := 11) hx hb dX5_addBird_159 (by decide) ?_
              obtain ⟨hg, hF⟩ := grp hF
              refine cpyT C0 hK hT hS hl.1 22 (al20 h 22 (by decide)) (by decide) wML_X5_90 (by decide) hg.1 (by decide) (by decide) hg.2 (Nat.le_of_ble_eq_true rfl) (Nat.le_of_ble_eq_true rfl) dX5_addBird_161 (fun H locs hW hS => ?_)
              refine lv_iconst (v := 0) hx hb dX5_addBird_164 (by decide) ?_
              refine lv_istore (lv' := [(7, .int 0), (6, .ref qT), (0, .ref (h.2.2 20 0)), (1, .int a1), (2, .int a2), (3, .int a3), (4, .int a4), (5, .int a5)]) hx hb dX5_addBird_165 hl (by decide) rfl (fun ls hl => ?_)
              obtain ⟨z17, hz17, hF⟩ := bnd hF
              refine lX5_addBird_167 C0 hlo hK hZ   _ 0 _ z17 hz17 _ _ _ hW hS (lv_sub hl [2, 0] rfl) (fun H locs ls hW hS hl => ?_)
              refine lv_iconst (v := 0) hx hb dX5_addBird_202 (by decide) ?_
              refine lv_istore (lv' := [(7, .int 0), (0, .ref (h.2.2 20 0))]) hx hb dX5_addBird_203 hl (by decide) rfl (fun ls hl => ?_)
              obtain ⟨z19, hz19, hF⟩ := bnd hF
              refine lX5_addBird_205 C0 hlo hK hZ   _ 0 _ z19 hz19 _ _ _ hW hS (lv_sub hl [1, 0] rfl) (fun H locs ls hW hS hl => ?_)
              refine lv_aload_n hx hb dX5_addBird_236 rfl (lv_at hl 0 rfl) ?_
              refine lv_dup hx hb dX5_addBird_237 rfl ?_
              refine get20 C0 hK hW 0 (al20 h 20 (by decide)) 3 (by decide) wFL_X5_49 rfl rfl dX5_addBird_238 ?_
              refine lv_iconst (v := 1) hx hb dX5_addBird_241 (by decide) ?_
              refine lv_iadd hx hb dX5_addBird_242 ?_
              refine put20_3 C0 hK hW hS 0 (al20 h 20 (by decide)) wFL_X5_49 dX5_addBird_243 (fun H locs hW hS => ?_)
              refine lv_aload_n hx hb dX5_addBird_246 rfl (lv_at hl 0 rfl) ?_
              refine get20 C0 hK hW 0 (al20 h 20 (by decide)) 3 (by decide) wFL_X5_49 rfl rfl dX5_addBird_247 ?_
              refine lv_iconst (v := 1) hx hb dX5_addBird_250 (by decide) ?_
              refine lv_isub hx hb dX5_addBird_251 ?_
              cases hF
              exact retI C0 hr hlk hW hS dX5_addBird_252
            · rw [if_pos c14] at hF
              refine lv_aload_n hx hb dX5_addBird_77 rfl (lv_at hl 0 rfl) ?_
              refine lv_iconst (v := 3) hx hb dX5_addBird_78 (by decide) ?_
              obtain ⟨z20, hz20, hF⟩ := bnd hF
              refine inI (runV C0 hlo hK hZ hW hS (kX5_fail l lo g h _ 3  _ _ hz20) wCO_X5_fail wML_X5_52 wIM_X5_fail wSE_X5_X5_fail wIN_X5 hdX5_fail ⟨Nat.le_of_ble_eq_true rfl, Nat.le_of_ble_eq_true rfl⟩ (recvK hK hW (al20 h 20 (by decide)) (ct20 0) rfl) rfl hl.1 rfl (Nat.le_of_ble_eq_true rfl) dX5_addBird_79 ⟨Nat.le_of_ble_eq_true rfl, Nat.le_of_ble_eq_true rfl⟩) hS (fun H locs hW hS => ?_)
              cases hF
              refine W.widen (k := 1) (n := 11) (Nat.le_of_ble_eq_true rfl) (Nat.le_of_ble_eq_true rfl) ?_
              exact retI C0 hr hlk hW hS dX5_addBird_82
          · rw [if_pos c13] at hF
            refine lv_aload_n hx hb dX5_addBird_62 rfl (lv_at hl 0 rfl) ?_
            refine lv_iconst (v := 2) hx hb dX5_addBird_63 (by decide) ?_
            obtain ⟨z21, hz21, hF⟩ := bnd hF
            refine inI (runV C0 hlo hK hZ hW hS (kX5_fail l lo g h _ 2  _ _ hz21) wCO_X5_fail wML_X5_52 wIM_X5_fail wSE_X5_X5_fail wIN_X5 hdX5_fail ⟨Nat.le_of_ble_eq_true rfl, Nat.le_of_ble_eq_true rfl⟩ (recvK hK hW (al20 h 20 (by decide)) (ct20 0) rfl) rfl hl.1 rfl (Nat.le_of_ble_eq_true rfl) dX5_addBird_64 ⟨Nat.le_of_ble_eq_true rfl, Nat.le_of_ble_eq_true rfl⟩) hS (fun H locs hW hS => ?_)
            cases hF
            refine W.widen (k := 1) (n := 11) (Nat.le_of_ble_eq_true rfl) (Nat.le_of_ble_eq_true rfl) ?_
            exact retI C0 hr hlk hW hS dX5_addBird_67
  · rw [if_pos c2] at hF
    refine lv_aload_n hx hb dX5_addBird_13 rfl (lv_at hl 0 rfl) ?_
    refine lv_iconst (v := 1) hx hb dX5_addBird_14 (by decide) ?_
    obtain ⟨z22, hz22, hF⟩ := bnd hF
    refine inI (runV C0 hlo hK hZ hW hS (kX5_fail l lo g h _ 1  _ _ hz22) wCO_X5_fail wML_X5_52 wIM_X5_fail wSE_X5_X5_fail wIN_X5 hdX5_fail ⟨Nat.le_of_ble_eq_true rfl, Nat.le_of_ble_eq_true rfl⟩ (recvK hK hW (al20 h 20 (by decide)) (ct20 0) rfl) rfl hl.1 rfl (Nat.le_of_ble_eq_true rfl) dX5_addBird_15 ⟨Nat.le_of_ble_eq_true rfl, Nat.le_of_ble_eq_true rfl⟩) hS (fun H locs hW hS => ?_)
    cases hF
    refine W.widen (k := 1) (n := 11) (Nat.le_of_ble_eq_true rfl) (Nat.le_of_ble_eq_true rfl) ?_
    exact retI C0 hr hlk hW hS dX5_addBird_18
