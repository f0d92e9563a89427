theorem hdX5_thrown : yX5_thrown.cls = RX5 ∧ yX5_thrown.cls ≠ "java/lang/invoke/MethodHandle" ∧ yX5_thrown.cls ≠ "java/lang/invoke/VarHandle" ∧ (parseMethodDescriptor yX5_thrown.desc).map (fun d => d.parameters.length) = some 0 := by decide +kernel
def FX5_thrown (ns nb : Nat) (σ : Sg)  : Option (Int32 × Sg) :=
  some (σ.1 20 0 0, σ)
set_option maxHeartbeats 4000000 in
set_option maxRecDepth 100000 in
theorem kX5_thrown (l : Launch) (lo : Nat) (g : Gx) (h : Sh) (σ : Sg)   (r : Int32) (σ1 : Sg) (hF : FX5_thrown h.1 h.2.1 σ  = some (r, σ1)) : MI l yX5_thrown (ws_ yX5_thrown cX5_thrown 1 (some .int)) 0 0 0 0 lo g h [.ref (h.2.2 20 0)] σ r σ1 := by
  refine ofB (own := RX5) (by decide +kernel) rfl (fun p e s m below meth c C0 hr hlk hlo hK hZ hW hS ls hl => ?_) (Nat.le_of_ble_eq_true rfl)
  have hx := C0.1
  have hb := C0.2.1
  have hl : lv_has ls 1 [(0, .ref (h.2.2 20 0))] := hl
  unfold FX5_thrown at hF
  refine lv_aload_n hx hb dX5_thrown_0 rfl (lv_at hl 0 rfl) ?_
  refine get20 C0 hK hW 0 (al20 h 20 (by decide)) 0 (by decide) wFL_X5_38 rfl rfl dX5_thrown_1 ?_
  cases hF
  exact retI C0 hr hlk hW hS dX5_thrown_4
theorem hdX5_fail : yX5_fail.cls = RX5 ∧ yX5_fail.cls ≠ "java/lang/invoke/MethodHandle" ∧ yX5_fail.cls ≠ "java/lang/invoke/VarHandle" ∧ (parseMethodDescriptor yX5_fail.desc).map (fun d => d.parameters.length) = some 1 := by decide +kernel
def FX5_fail (ns nb : Nat) (σ : Sg) (a1 : Int32) : Option (Int32 × Sg) :=
  some (0, (sI σ 20 0 0 a1))
set_option maxHeartbeats 4000000 in
set_option maxRecDepth 100000 in
theorem kX5_fail (l : Launch) (lo : Nat) (g : Gx) (h : Sh) (σ : Sg) (a1 : Int32)  (r : Int32) (σ1 : Sg) (hF : FX5_fail h.1 h.2.1 σ a1 = some (r, σ1)) : MI l yX5_fail (ws_ yX5_fail cX5_fail 2 (some .int)) 0 0 0 0 lo g h [.ref (h.2.2 20 0), .int a1] σ r σ1 := by
  refine ofB (own := RX5) (by decide +kernel) rfl (fun p e s m below meth c C0 hr hlk hlo hK hZ hW hS ls hl => ?_) (Nat.le_of_ble_eq_true rfl)
  have hx := C0.1
  have hb := C0.2.1
  have hl : lv_has ls 2 [(0, .ref (h.2.2 20 0)), (1, .int a1)] := hl
  unfold FX5_fail at hF
  refine lv_aload_n hx hb dX5_fail_0 rfl (lv_at hl 0 rfl) ?_
  refine lv_iload_n hx hb dX5_fail_1 rfl (lv_at hl 1 rfl) ?_
  refine put20_0 C0 hK hW hS 0 (al20 h 20 (by decide)) wFL_X5_38 dX5_fail_2 (fun H locs hW hS => ?_)
  refine lv_iconst (v := 0) hx hb dX5_fail_5 (by decide) ?_
  cases hF
  exact retI C0 hr hlk hW hS dX5_fail_6
theorem hdsX5_isIn : yX5_isIn.cls ≠ "java/lang/invoke/MethodHandle" ∧ yX5_isIn.cls ≠ "java/lang/invoke/VarHandle" ∧ (parseMethodDescriptor yX5_isIn.desc).map (fun d => d.parameters.length) = some 3 := by decide +kernel
def FX5_isIn (ns nb : Nat) (σ : Sg) (a0 : Int32) (a1 : Int32) (a2 : Int32) : Option (Int32 × Sg) :=
  if a0 < a1 then (some (0, σ)) else (if a2 < a0 then (some (0, σ)) else (some (1, σ)))
set_option maxHeartbeats 4000000 in
set_option maxRecDepth 100000 in
theorem kX5_isIn (l : Launch) (lo : Nat) (g : Gx) (h : Sh) (σ : Sg) (a0 : Int32) (a1 : Int32) (a2 : Int32)  (r : Int32) (σ1 : Sg) (hF : FX5_isIn h.1 h.2.1 σ a0 a1 a2 = some (r, σ1)) : MI l yX5_isIn (ws_ yX5_isIn cX5_isIn 3 (some .boolean)) 0 0 0 0 lo g h [.int a0, .int a1, .int a2] σ r σ1 := by
  refine ofB (own := RX5) (by decide +kernel) rfl (fun p e s m below meth c C0 hr hlk hlo hK hZ hW hS ls hl => ?_) (Nat.le_of_ble_eq_true rfl)
  have hx := C0.1
  have hb := C0.2.1
  have hl : lv_has ls 3 [(0, .int a0), (1, .int a1), (2, .int a2)] := hl
  unfold FX5_isIn at hF
  refine lv_iload_n hx hb dX5_isIn_0 rfl (lv_at hl 0 rfl) ?_
  refine lv_iload_n hx hb dX5_isIn_1 rfl (lv_at hl 1 rfl) ?_
  refine lv_icmp_lt (tgt := 14) hx hb dX5_isIn_2 (by decide) (fun c1 => ?_) (fun c1 => ?_)
  · rw [if_pos c1] at hF
    refine lv_iconst (v := 0) hx hb dX5_isIn_14 (by decide) ?_
    cases hF
    exact retZ C0 hr hlk (Or.inl rfl) hW hS dX5_isIn_15
  · rw [if_neg c1] at hF
    refine lv_iload_n hx hb dX5_isIn_5 rfl (lv_at hl 0 rfl) ?_
    refine lv_iload_n hx hb dX5_isIn_6 rfl (lv_at hl 2 rfl) ?_
    refine lv_icmp_gt (tgt := 14) hx hb dX5_isIn_7 (by decide) (fun c2 => ?_) (fun c2 => ?_)
    · rw [if_pos c2] at hF
      refine lv_iconst (v := 0) hx hb dX5_isIn_14 (by decide) ?_
      cases hF
      exact retZ C0 hr hlk (Or.inl rfl) hW hS dX5_isIn_15
    · rw [if_neg c2] at hF
      refine lv_iconst (v := 1) hx hb dX5_isIn_10 (by decide) ?_
      refine lv_goto (tgt := 15) hx hb dX5_isIn_11 (by decide) ?_
      cases hF
      exact retZ C0 hr hlk (Or.inr rfl) hW hS dX5_isIn_15
theorem hdX5_isSpring : yX5_isSpring.cls = RX5 ∧ yX5_isSpring.cls ≠ "java/lang/invoke/MethodHandle" ∧ yX5_isSpring.cls ≠ "java/lang/invoke/VarHandle" ∧ (parseMethodDescriptor yX5_isSpring.desc).map (fun d => d.parameters.length) = some 1 := by decide +kernel
def FX5_isSpring (ns nb : Nat) (σ : Sg) (a1 : Int32) : Option (Int32 × Sg) :=
  (FX5_isIn ns nb σ a1 0 ((σ.1 20 0 2) - 1)).bind fun z1 => if (z1.1 = 0 ∨ z1.1 = 1) then (some (z1.1, z1.2)) else none
set_option maxHeartbeats 4000000 in
set_option maxRecDepth 100000 in
theorem kX5_isSpring (l : Launch) (lo : Nat) (g : Gx) (h : Sh) (σ : Sg) (a1 : Int32)  (r : Int32) (σ1 : Sg) (hF : FX5_isSpring h.1 h.2.1 σ a1 = some (r, σ1)) : MI l yX5_isSpring (ws_ yX5_isSpring cX5_isSpring 2 (some .boolean)) 1 22 0 0 lo g h [.ref (h.2.2 20 0), .int a1] σ r σ1 := by
  refine ofB (own := RX5) (by decide +kernel) rfl (fun p e s m below meth c C0 hr hlk hlo hK hZ hW hS ls hl => ?_) (Nat.le_of_ble_eq_true rfl)
  have hx := C0.1
  have hb := C0.2.1
  have hl : lv_has ls 2 [(0, .ref (h.2.2 20 0)), (1, .int a1)] := hl
  unfold FX5_isSpring at hF
  refine lv_iload_n hx hb dX5_isSpring_0 rfl (lv_at hl 1 rfl) ?_
  refine lv_iconst (v := 0) hx hb dX5_isSpring_1 (by decide) ?_
  refine lv_aload_n hx hb dX5_isSpring_2 rfl (lv_at hl 0 rfl) ?_
  refine get20 C0 hK hW 0 (al20 h 20 (by decide)) 2 (by decide) wFL_X5_42 rfl rfl dX5_isSpring_3 ?_
  refine lv_iconst (v := 1) hx hb dX5_isSpring_6 (by decide) ?_
  refine lv_isub hx hb dX5_isSpring_7 ?_
  obtain ⟨z1, hz1, hF⟩ := bnd hF
  refine inI (runS C0 hlo hK hZ hW hS (kX5_isIn l lo g h _ a1 0 ((σ.1 20 0 2) - 1)  _ _ hz1) wCO_X5_isIn wML_X5_45 wST_X5_isIn wIN_X5 hdsX5_isIn ⟨Nat.le_of_ble_eq_true rfl, Nat.le_of_ble_eq_true rfl⟩ rfl hl.1 rfl (Nat.le_of_ble_eq_true rfl) dX5_isSpring_8 ⟨Nat.le_of_ble_eq_true rfl, Nat.le_of_ble_eq_true rfl⟩) hS (fun H locs hW hS => ?_)
  obtain ⟨hz, hF⟩ := grp hF
  cases hF
  exact retZ C0 hr hlk hz hW hS dX5_isSpring_11
theorem hdX5_isBird : yX5_isBird.cls = RX5 ∧ yX5_isBird.cls ≠ "java/lang/invoke/MethodHandle" ∧ yX5_isBird.cls ≠ "java/lang/invoke/VarHandle" ∧ (parseMethodDescriptor yX5_isBird.desc).map (fun d => d.parameters.length) = some 1 := by decide +kernel
def FX5_isBird (ns nb : Nat) (σ : Sg) (a1 : Int32) : Option (Int32 × Sg) :=
  (FX5_isIn ns nb σ a1 0 ((σ.1 20 0 3) - 1)).bind fun z1 => if (z1.1 = 0 ∨ z1.1 = 1) then (some (z1.1, z1.2)) else none
set_option maxHeartbeats 4000000 in
set_option maxRecDepth 100000 in
theorem kX5_isBird (l : Launch) (lo : Nat) (g : Gx) (h : Sh) (σ : Sg) (a1 : Int32)  (r : Int32) (σ1 : Sg) (hF : FX5_isBird h.1 h.2.1 σ a1 = some (r, σ1)) : MI l yX5_isBird (ws_ yX5_isBird cX5_isBird 2 (some .boolean)) 1 22 0 0 lo g h [.ref (h.2.2 20 0), .int a1] σ r σ1 := by
  refine ofB (own := RX5) (by decide +kernel) rfl (fun p e s m below meth c C0 hr hlk hlo hK hZ hW hS ls hl => ?_) (Nat.le_of_ble_eq_true rfl)
  have hx := C0.1
  have hb := C0.2.1
  have hl : lv_has ls 2 [(0, .ref (h.2.2 20 0)), (1, .int a1)] := hl
  unfold FX5_isBird at hF
  refine lv_iload_n hx hb dX5_isBird_0 rfl (lv_at hl 1 rfl) ?_
  refine lv_iconst (v := 0) hx hb dX5_isBird_1 (by decide) ?_
  refine lv_aload_n hx hb dX5_isBird_2 rfl (lv_at hl 0 rfl) ?_
  refine get20 C0 hK hW 0 (al20 h 20 (by decide)) 3 (by decide) wFL_X5_49 rfl rfl dX5_isBird_3 ?_
  refine lv_iconst (v := 1) hx hb dX5_isBird_6 (by decide) ?_
  refine lv_isub hx hb dX5_isBird_7 ?_
  obtain ⟨z1, hz1, hF⟩ := bnd hF
  refine inI (runS C0 hlo hK hZ hW hS (kX5_isIn l lo g h _ a1 0 ((σ.1 20 0 3) - 1)  _ _ hz1) wCO_X5_isIn wML_X5_45 wST_X5_isIn wIN_X5 hdsX5_isIn ⟨Nat.le_of_ble_eq_true rfl, Nat.le_of_ble_eq_true rfl⟩ rfl hl.1 rfl (Nat.le_of_ble_eq_true rfl) dX5_isBird_8 ⟨Nat.le_of_ble_eq_true rfl, Nat.le_of_ble_eq_true rfl⟩) hS (fun H locs hW hS => ?_)
  obtain ⟨hz, hF⟩ := grp hF
  cases hF
  exact retZ C0 hr hlk hz hW hS dX5_isBird_11
theorem hdX5_get : yX5_get.cls = RX5 ∧ yX5_get.cls ≠ "java/lang/invoke/MethodHandle" ∧ yX5_get.cls ≠ "java/lang/invoke/VarHandle" ∧ (parseMethodDescriptor yX5_get.desc).map (fun d => d.parameters.length) = some 2 := by decide +kernel
def FX5_get (ns nb : Nat) (σ : Sg) (a1 : Int32) (a2 : Int32) : Option (Int32 × Sg) :=
  if (((11 * a1) + a2) < 0 ∨ 88 ≤ ((11 * a1) + a2).toNatClampNeg) then none else (some (σ.1 22 0 ((11 * a1) + a2).toNatClampNeg, σ))
set_option maxHeartbeats 4000000 in
set_option maxRecDepth 100000 in
theorem kX5_get (l : Launch) (lo : Nat) (g : Gx) (h : Sh) (σ : Sg) (a1 : Int32) (a2 : Int32)  (r : Int32) (σ1 : Sg) (hF : FX5_get h.1 h.2.1 σ a1 a2 = some (r, σ1)) : MI l yX5_get (ws_ yX5_get cX5_get 3 (some .int)) 0 0 0 0 lo g h [.ref (h.2.2 20 0), .int a1, .int a2] σ r σ1 := by
  refine ofB (own := RX5) (by decide +kernel) rfl (fun p e s m below meth c C0 hr hlk hlo hK hZ hW hS ls hl => ?_) (Nat.le_of_ble_eq_true rfl)
  have hx := C0.1
  have hb := C0.2.1
  have hl : lv_has ls 3 [(0, .ref (h.2.2 20 0)), (1, .int a1), (2, .int a2)] := hl
  unfold FX5_get at hF
  refine lv_aload_n hx hb dX5_get_0 rfl (lv_at hl 0 rfl) ?_
  refine get20 C0 hK hW 0 (al20 h 20 (by decide)) 5 (by decide) wFL_X5_13 rfl rfl dX5_get_1 ?_
  refine lv_bipush (v := 11) hx hb dX5_get_4 (by decide) ?_
  refine lv_iload_n hx hb dX5_get_6 rfl (lv_at hl 1 rfl) ?_
  refine lv_imul hx hb dX5_get_7 ?_
  refine lv_iload_n hx hb dX5_get_8 rfl (lv_at hl 2 rfl) ?_
  refine lv_iadd hx hb dX5_get_9 ?_
  obtain ⟨hg, hF⟩ := grd hF
  refine ald C0 hK hW 22 0 (al20 h 22 (by decide)) (by decide) hg dX5_get_10 ?_
  cases hF
  exact retI C0 hr hlk hW hS dX5_get_11
theorem hdX5_set : yX5_set.cls = RX5 ∧ yX5_set.cls ≠ "java/lang/invoke/MethodHandle" ∧ yX5_set.cls ≠ "java/lang/invoke/VarHandle" ∧ (parseMethodDescriptor yX5_set.desc).map (fun d => d.parameters.length) = some 3 := by decide +kernel
def FX5_set (ns nb : Nat) (σ : Sg) (a1 : Int32) (a2 : Int32) (a3 : Int32) : Option Sg :=
  if (((11 * a1) + a2) < 0 ∨ 88 ≤ ((11 * a1) + a2).toNatClampNeg) then none else (some (sI σ 22 0 ((11 * a1) + a2).toNatClampNeg a3))
set_option maxHeartbeats 4000000 in
set_option maxRecDepth 100000 in
theorem kX5_set (l : Launch) (lo : Nat) (g : Gx) (h : Sh) (σ : Sg) (a1 : Int32) (a2 : Int32) (a3 : Int32)  (σ1 : Sg) (hF : FX5_set h.1 h.2.1 σ a1 a2 a3 = some σ1) : MV l yX5_set (ws_ yX5_set cX5_set 4 none) 0 0 0 0 lo g h [.ref (h.2.2 20 0), .int a1, .int a2, .int a3] σ σ1 := by
  refine ofB (own := RX5) (by decide +kernel) rfl (fun p e s m below meth c C0 hr hlk hlo hK hZ hW hS ls hl => ?_) (Nat.le_of_ble_eq_true rfl)
  have hx := C0.1
  have hb := C0.2.1
  have hl : lv_has ls 4 [(0, .ref (h.2.2 20 0)), (1, .int a1), (2, .int a2), (3, .int a3)] := hl
  unfold FX5_set at hF
  refine lv_aload_n hx hb dX5_set_0 rfl (lv_at hl 0 rfl) ?_
  refine get20 C0 hK hW 0 (al20 h 20 (by decide)) 5 (by decide) wFL_X5_13 rfl rfl dX5_set_1 ?_
  refine lv_bipush (v := 11) hx hb dX5_set_4 (by decide) ?_
  refine lv_iload_n hx hb dX5_set_6 rfl (lv_at hl 1 rfl) ?_
  refine lv_imul hx hb dX5_set_7 ?_
  refine lv_iload_n hx hb dX5_set_8 rfl (lv_at hl 2 rfl) ?_
  refine lv_iadd hx hb dX5_set_9 ?_
  refine lv_iload_n hx hb dX5_set_10 rfl (lv_at hl 3 rfl) ?_
  obtain ⟨hg, hF⟩ := grd hF
  refine ast C0 hK hW hS 22 0 (al20 h 22 (by decide)) (by decide) hg dX5_set_11 (fun H locs hW hS => ?_)
  cases hF
  exact retV C0 hr hlk hW hS dX5_set_12
theorem hdX5_sp : yX5_sp.cls = RX5 ∧ yX5_sp.cls ≠ "java/lang/invoke/MethodHandle" ∧ yX5_sp.cls ≠ "java/lang/invoke/VarHandle" ∧ (parseMethodDescriptor yX5_sp.desc).map (fun d => d.parameters.length) = some 2 := by decide +kernel
def FX5_sp (ns nb : Nat) (σ : Sg) (a1 : Int32) (a2 : Int32) : Option (Int32 × Sg) :=
  if (((5 * a1) + a2) < 0 ∨ 20 ≤ ((5 * a1) + a2).toNatClampNeg) then none else (some (σ.1 21 0 ((5 * a1) + a2).toNatClampNeg, σ))
set_option maxHeartbeats 4000000 in
set_option maxRecDepth 100000 in
theorem kX5_sp (l : Launch) (lo : Nat) (g : Gx) (h : Sh) (σ : Sg) (a1 : Int32) (a2 : Int32)  (r : Int32) (σ1 : Sg) (hF : FX5_sp h.1 h.2.1 σ a1 a2 = some (r, σ1)) : MI l yX5_sp (ws_ yX5_sp cX5_sp 3 (some .int)) 0 0 0 0 lo g h [.ref (h.2.2 20 0), .int a1, .int a2] σ r σ1 := by
  refine ofB (own := RX5) (by decide +kernel) rfl (fun p e s m below meth c C0 hr hlk hlo hK hZ hW hS ls hl => ?_) (Nat.le_of_ble_eq_true rfl)
  have hx := C0.1
  have hb := C0.2.1
  have hl : lv_has ls 3 [(0, .ref (h.2.2 20 0)), (1, .int a1), (2, .int a2)] := hl
  unfold FX5_sp at hF
  refine lv_aload_n hx hb dX5_sp_0 rfl (lv_at hl 0 rfl) ?_
  refine get20 C0 hK hW 0 (al20 h 20 (by decide)) 4 (by decide) wFL_X5_9 rfl rfl dX5_sp_1 ?_
  refine lv_iconst (v := 5) hx hb dX5_sp_4 (by decide) ?_
  refine lv_iload_n hx hb dX5_sp_5 rfl (lv_at hl 1 rfl) ?_
  refine lv_imul hx hb dX5_sp_6 ?_
  refine lv_iload_n hx hb dX5_sp_7 rfl (lv_at hl 2 rfl) ?_
  refine lv_iadd hx hb dX5_sp_8 ?_
  obtain ⟨hg, hF⟩ := grd hF
  refine ald C0 hK hW 21 0 (al20 h 21 (by decide)) (by decide) hg dX5_sp_9 ?_
  cases hF
  exact retI C0 hr hlk hW hS dX5_sp_10
theorem hdsX5_cam : yX5_cam.cls ≠ "java/lang/invoke/MethodHandle" ∧ yX5_cam.cls ≠ "java/lang/invoke/VarHandle" ∧ (parseMethodDescriptor yX5_cam.desc).map (fun d => d.parameters.length) = some 2 := by decide +kernel
def FX5_cam (ns nb : Nat) (σ : Sg) (a0 : Int32) (a1 : Int32) : Option (Int32 × Sg) :=
  some (96 * ((3 * a0) + a1), σ)
set_option maxHeartbeats 4000000 in
set_option maxRecDepth 100000 in
theorem kX5_cam (l : Launch) (lo : Nat) (g : Gx) (h : Sh) (σ : Sg) (a0 : Int32) (a1 : Int32)  (r : Int32) (σ1 : Sg) (hF : FX5_cam h.1 h.2.1 σ a0 a1 = some (r, σ1)) : MI l yX5_cam (ws_ yX5_cam cX5_cam 2 (some .int)) 0 0 0 0 lo g h [.int a0, .int a1] σ r σ1 := by
  refine ofB (own := RX5) (by decide +kernel) rfl (fun p e s m below meth c C0 hr hlk hlo hK hZ hW hS ls hl => ?_) (Nat.le_of_ble_eq_true rfl)
  have hx := C0.1
  have hb := C0.2.1
  have hl : lv_has ls 2 [(0, .int a0), (1, .int a1)] := hl
  unfold FX5_cam at hF
  refine lv_bipush (v := 96) hx hb dX5_cam_0 (by decide) ?_
  refine lv_iconst (v := 3) hx hb dX5_cam_2 (by decide) ?_
  refine lv_iload_n hx hb dX5_cam_3 rfl (lv_at hl 0 rfl) ?_
  refine lv_imul hx hb dX5_cam_4 ?_
  refine lv_iload_n hx hb dX5_cam_5 rfl (lv_at hl 1 rfl) ?_
  refine lv_iadd hx hb dX5_cam_6 ?_
  refine lv_imul hx hb dX5_cam_7 ?_
  cases hF
  exact retI C0 hr hlk hW hS dX5_cam_8
theorem hdX5_addSpring : yX5_addSpring.cls = RX5 ∧ yX5_addSpring.cls ≠ "java/lang/invoke/MethodHandle" ∧ yX5_addSpring.cls ≠ "java/lang/invoke/VarHandle" ∧ (parseMethodDescriptor yX5_addSpring.desc).map (fun d => d.parameters.length) = some 1 := by decide +kernel
def FX5_addSpring (ns nb : Nat) (σ : Sg) (a1 : Int32) : Option (Int32 × Sg) :=
  (FX5_isIn ns nb (sI σ 20 0 0 0) a1 1 50).bind fun z1 => if z1.1 = 0 then ((FX5_fail ns nb z1.2 1).bind fun z5 => some (z5.1, z5.2)) else (if (z1.2.1 20 0 2) = 4 then ((FX5_fail ns nb z1.2 2).bind fun z4 => some (z4.1, z4.2)) else (if ((5 * (z1.2.1 20 0 2)) < 0 ∨ 20 ≤ (5 * (z1.2.1 20 0 2)).toNatClampNeg) then none else (some (((sI (sI z1.2 21 0 (5 * (z1.2.1 20 0 2)).toNatClampNeg a1) 20 0 2 (((sI z1.2 21 0 (5 * (z1.2.1 20 0 2)).toNatClampNeg a1).1 20 0 2) + 1)).1 20 0 2) - 1, (sI (sI z1.2 21 0 (5 * (z1.2.1 20 0 2)).toNatClampNeg a1) 20 0 2 (((sI z1.2 21 0 (5 * (z1.2.1 20 0 2)).toNatClampNeg a1).1 20 0 2) + 1))))))
set_option maxHeartbeats 4000000 in
set_option maxRecDepth 100000 in
theorem kX5_addSpring (l : Launch) (lo : Nat) (g : Gx) (h : Sh) (σ : Sg) (a1 : Int32)  (r : Int32) (σ1 : Sg) (hF : FX5_addSpring h.1 h.2.1 σ a1 = some (r, σ1)) : MI l yX5_addSpring (ws_ yX5_addSpring cX5_addSpring 2 (some .int)) 1 22 0 0 lo g h [.ref (h.2.2 20 0), .int a1] σ r σ1 := by
  refine ofB (own := RX5) (by decide +kernel) rfl (fun p e s m below meth c C0 hr hlk hlo hK hZ hW hS ls hl => ?_) (Nat.le_of_ble_eq_true rfl)
  have hx := C0.1
  have hb := C0.2.1
  have hl : lv_has ls 2 [(0, .ref (h.2.2 20 0)), (1, .int a1)] := hl
  unfold FX5_addSpring at hF
  refine lv_aload_n hx hb dX5_addSpring_0 rfl (lv_at hl 0 rfl) ?_
  refine lv_iconst (v := 0) hx hb dX5_addSpring_1 (by decide) ?_
  refine put20_0 C0 hK hW hS 0 (al20 h 20 (by decide)) wFL_X5_38 dX5_addSpring_2 (fun H locs hW hS => ?_)
  refine lv_iload_n hx hb dX5_addSpring_5 rfl (lv_at hl 1 rfl) ?_
  refine lv_iconst (v := 1) hx hb dX5_addSpring_6 (by decide) ?_
  refine lv_bipush (v := 50) hx hb dX5_addSpring_7 (by decide) ?_
  obtain ⟨z1, hz1, hF⟩ := bnd hF
  refine inI (runS C0 hlo hK hZ hW hS (kX5_isIn l lo g h _ a1 1 50  _ _ hz1) wCO_X5_isIn wML_X5_45 wST_X5_isIn wIN_X5 hdsX5_isIn ⟨Nat.le_of_ble_eq_true rfl, Nat.le_of_ble_eq_true rfl⟩ rfl hl.1 rfl (Nat.le_of_ble_eq_true rfl) dX5_addSpring_9 ⟨Nat.le_of_ble_eq_true rfl, Nat.le_of_ble_eq_true rfl⟩) hS (fun H locs hW hS => ?_)
  refine lv_if_ne (tgt := 21) hx hb dX5_addSpring_12 (by decide) (fun c2 => ?_) (fun c2 => ?_)
  · rw [if_neg c2] at hF
    refine lv_aload_n hx hb dX5_addSpring_21 rfl (lv_at hl 0 rfl) ?_
    refine get20 C0 hK hW 0 (al20 h 20 (by decide)) 2 (by decide) wFL_X5_42 rfl rfl dX5_addSpring_22 ?_
    refine lv_iconst (v := 4) hx hb dX5_addSpring_25 (by decide) ?_
    refine lv_icmp_ne (tgt := 35) hx hb dX5_addSpring_26 (by decide) (fun c3 => ?_) (fun c3 => ?_)
    · rw [if_neg c3] at hF
      refine lv_aload_n hx hb dX5_addSpring_35 rfl (lv_at hl 0 rfl) ?_
      refine get20 C0 hK hW 0 (al20 h 20 (by decide)) 4 (by decide) wFL_X5_9 rfl rfl dX5_addSpring_36 ?_
      refine lv_iconst (v := 5) hx hb dX5_addSpring_39 (by decide) ?_
      refine lv_aload_n hx hb dX5_addSpring_40 rfl (lv_at hl 0 rfl) ?_
      refine get20 C0 hK hW 0 (al20 h 20 (by decide)) 2 (by decide) wFL_X5_42 rfl rfl dX5_addSpring_41 ?_
      refine lv_imul hx hb dX5_addSpring_44 ?_
      refine lv_iload_n hx hb dX5_addSpring_45 rfl (lv_at hl 1 rfl) ?_
      obtain ⟨hg, hF⟩ := grd hF
      refine ast C0 hK hW hS 21 0 (al20 h 21 (by decide)) (by decide) hg dX5_addSpring_46 (fun H locs hW hS => ?_)
      refine lv_aload_n hx hb dX5_addSpring_47 rfl (lv_at hl 0 rfl) ?_
      refine lv_dup hx hb dX5_addSpring_48 rfl ?_
      refine get20 C0 hK hW 0 (al20 h 20 (by decide)) 2 (by decide) wFL_X5_42 rfl rfl dX5_addSpring_49 ?_
      refine lv_iconst (v := 1) hx hb dX5_addSpring_52 (by decide) ?_
      refine lv_iadd hx hb dX5_addSpring_53 ?_
      refine put20_2 C0 hK hW hS 0 (al20 h 20 (by decide)) wFL_X5_42 dX5_addSpring_54 (fun H locs hW hS => ?_)
      refine lv_aload_n hx hb dX5_addSpring_57 rfl (lv_at hl 0 rfl) ?_
      refine get20 C0 hK hW 0 (al20 h 20 (by decide)) 2 (by decide) wFL_X5_42 rfl rfl dX5_addSpring_58 ?_
      refine lv_iconst (v := 1) hx hb dX5_addSpring_61 (by decide) ?_
      refine lv_isub hx hb dX5_addSpring_62 ?_
      cases hF
      exact retI C0 hr hlk hW hS dX5_addSpring_63
    · rw [if_pos c3] at hF
      refine lv_aload_n hx hb dX5_addSpring_29 rfl (lv_at hl 0 rfl) ?_
      refine lv_iconst (v := 2) hx hb dX5_addSpring_30 (by decide) ?_
      obtain ⟨z4, hz4, hF⟩ := bnd hF
      refine inI (runV C0 hlo hK hZ hW hS (kX5_fail l lo g h _ 2  _ _ hz4) wCO_X5_fail wML_X5_52 wIM_X5_fail wSE_X5_X5_fail wIN_X5 hdX5_fail ⟨Nat.le_of_ble_eq_true rfl, Nat.le_of_ble_eq_true rfl⟩ (recvK hK hW (al20 h 20 (by decide)) (ct20 0) rfl) rfl hl.1 rfl (Nat.le_of_ble_eq_true rfl) dX5_addSpring_31 ⟨Nat.le_of_ble_eq_true rfl, Nat.le_of_ble_eq_true rfl⟩) hS (fun H locs hW hS => ?_)
      cases hF
      exact retI C0 hr hlk hW hS dX5_addSpring_34
  · rw [if_pos c2] at hF
    refine lv_aload_n hx hb dX5_addSpring_15 rfl (lv_at hl 0 rfl) ?_
    refine lv_iconst (v := 1) hx hb dX5_addSpring_16 (by decide) ?_
    obtain ⟨z5, hz5, hF⟩ := bnd hF
    refine inI (runV C0 hlo hK hZ hW hS (kX5_fail l lo g h _ 1  _ _ hz5) wCO_X5_fail wML_X5_52 wIM_X5_fail wSE_X5_X5_fail wIN_X5 hdX5_fail ⟨Nat.le_of_ble_eq_true rfl, Nat.le_of_ble_eq_true rfl⟩ (recvK hK hW (al20 h 20 (by decide)) (ct20 0) rfl) rfl hl.1 rfl (Nat.le_of_ble_eq_true rfl) dX5_addSpring_17 ⟨Nat.le_of_ble_eq_true rfl, Nat.le_of_ble_eq_true rfl⟩) hS (fun H locs hW hS => ?_)
    cases hF
    exact retI C0 hr hlk hW hS dX5_addSpring_20
theorem hdX5_wind : yX5_wind.cls = RX5 ∧ yX5_wind.cls ≠ "java/lang/invoke/MethodHandle" ∧ yX5_wind.cls ≠ "java/lang/invoke/VarHandle" ∧ (parseMethodDescriptor yX5_wind.desc).map (fun d => d.parameters.length) = some 2 := by decide +kernel
def FX5_wind (ns nb : Nat) (σ : Sg) (a1 : Int32) (a2 : Int32) : Option (Int32 × Sg) :=
  (FX5_isSpring ns nb (sI σ 20 0 0 0) a1).bind fun z1 => if z1.1 = 0 then ((FX5_fail ns nb z1.2 1).bind fun z6 => some (z6.1, z6.2)) else ((FX5_isIn ns nb z1.2 a2 1 200000).bind fun z3 => if z3.1 = 0 then ((FX5_fail ns nb z3.2 2).bind fun z5 => some (z5.1, z5.2)) else (if (((5 * a1) + 1) < 0 ∨ 20 ≤ ((5 * a1) + 1).toNatClampNeg) then none else (if (((5 * a1) + 1) < 0 ∨ 20 ≤ ((5 * a1) + 1).toNatClampNeg) then none else (if (((5 * a1) + 1) < 0 ∨ 20 ≤ ((5 * a1) + 1).toNatClampNeg) then none else (some ((sI z3.2 21 0 ((5 * a1) + 1).toNatClampNeg (mnI 200000 ((z3.2.1 21 0 ((5 * a1) + 1).toNatClampNeg) + a2))).1 21 0 ((5 * a1) + 1).toNatClampNeg, (sI z3.2 21 0 ((5 * a1) + 1).toNatClampNeg (mnI 200000 ((z3.2.1 21 0 ((5 * a1) + 1).toNatClampNeg) + a2)))))))))
set_option maxHeartbeats 4000000 in
set_option maxRecDepth 100000 in
theorem kX5_wind (l : Launch) (lo : Nat) (g : Gx) (h : Sh) (σ : Sg) (a1 : Int32) (a2 : Int32)  (r : Int32) (σ1 : Sg) (hF : FX5_wind h.1 h.2.1 σ a1 a2 = some (r, σ1)) : MI l yX5_wind (ws_ yX5_wind cX5_wind 4 (some .int)) 2 43 0 0 lo g h [.ref (h.2.2 20 0), .int a1, .int a2] σ r σ1 := by
  refine ofB (own := RX5) (by decide +kernel) rfl (fun p e s m below meth c C0 hr hlk hlo hK hZ hW hS ls hl => ?_) (Nat.le_of_ble_eq_true rfl)
  have hx := C0.1
  have hb := C0.2.1
  have hl : lv_has ls 4 [(0, .ref (h.2.2 20 0)), (1, .int a1), (2, .int a2)] := hl
  unfold FX5_wind at hF
  refine lv_aload_n hx hb dX5_wind_0 rfl (lv_at hl 0 rfl) ?_
  refine lv_iconst (v := 0) hx hb dX5_wind_1 (by decide) ?_
  refine put20_0 C0 hK hW hS 0 (al20 h 20 (by decide)) wFL_X5_38 dX5_wind_2 (fun H locs hW hS => ?_)
  refine lv_aload_n hx hb dX5_wind_5 rfl (lv_at hl 0 rfl) ?_
  refine lv_iload_n hx hb dX5_wind_6 rfl (lv_at hl 1 rfl) ?_
  obtain ⟨z1, hz1, hF⟩ := bnd hF
  refine inI (runV C0 hlo hK hZ hW hS (kX5_isSpring l lo g h _ a1  _ _ hz1) wCO_X5_isSpring wML_X5_56 wIM_X5_isSpring wSE_X5_X5_isSpring wIN_X5 hdX5_isSpring ⟨Nat.le_of_ble_eq_true rfl, Nat.le_of_ble_eq_true rfl⟩ (recvK hK hW (al20 h 20 (by decide)) (ct20 0) rfl) rfl hl.1 rfl (Nat.le_of_ble_eq_true rfl) dX5_wind_7 ⟨Nat.le_of_ble_eq_true rfl, Nat.le_of_ble_eq_true rfl⟩) hS (fun H locs hW hS => ?_)
  refine lv_if_ne (tgt := 19) hx hb dX5_wind_10 (by decide) (fun c2 => ?_) (fun c2 => ?_)
  · rw [if_neg c2] at hF
    refine lv_iload_n hx hb dX5_wind_19 rfl (lv_at hl 2 rfl) ?_
    refine lv_iconst (v := 1) hx hb dX5_wind_20 (by decide) ?_
    refine lv_ldc hx hb C0.2.2.2.1 (C0.2.2.2.2 _ wconstant_X5_60) dX5_wind_21 ?_
    obtain ⟨z3, hz3, hF⟩ := bnd hF
    refine inI (runS C0 hlo hK hZ hW hS (kX5_isIn l lo g h _ a2 1 200000  _ _ hz3) wCO_X5_isIn wML_X5_45 wST_X5_isIn wIN_X5 hdsX5_isIn ⟨Nat.le_of_ble_eq_true rfl, Nat.le_of_ble_eq_true rfl⟩ rfl hl.1 rfl (Nat.le_of_ble_eq_true rfl) dX5_wind_23 ⟨Nat.le_of_ble_eq_true rfl, Nat.le_of_ble_eq_true rfl⟩) hS (fun H locs hW hS => ?_)
    refine lv_if_ne (tgt := 35) hx hb dX5_wind_26 (by decide) (fun c4 => ?_) (fun c4 => ?_)
    · rw [if_neg c4] at hF
      refine lv_iconst (v := 5) hx hb dX5_wind_35 (by decide) ?_
      refine lv_iload_n hx hb dX5_wind_36 rfl (lv_at hl 1 rfl) ?_
      refine lv_imul hx hb dX5_wind_37 ?_
      refine lv_iconst (v := 1) hx hb dX5_wind_38 (by decide) ?_
      refine lv_iadd hx hb dX5_wind_39 ?_
      refine lv_istore_n (lv' := [(3, .int ((5 * a1) + 1)), (0, .ref (h.2.2 20 0)), (1, .int a1), (2, .int a2)]) hx hb dX5_wind_40 rfl hl (by decide) rfl (fun ls hl => ?_)
      refine lv_aload_n hx hb dX5_wind_41 rfl (lv_at hl 1 rfl) ?_
      refine get20 C0 hK hW 0 (al20 h 20 (by decide)) 4 (by decide) wFL_X5_9 rfl rfl dX5_wind_42 ?_
      refine lv_iload_n hx hb dX5_wind_45 rfl (lv_at hl 0 rfl) ?_
      refine lv_ldc hx hb C0.2.2.2.1 (C0.2.2.2.2 _ wconstant_X5_60) dX5_wind_46 ?_
      refine lv_aload_n hx hb dX5_wind_48 rfl (lv_at hl 1 rfl) ?_
      refine get20 C0 hK hW 0 (al20 h 20 (by decide)) 4 (by decide) wFL_X5_9 rfl rfl dX5_wind_49 ?_
      refine lv_iload_n hx hb dX5_wind_52 rfl (lv_at hl 0 rfl) ?_
      obtain ⟨hg, hF⟩ := grd hF
      refine ald C0 hK hW 21 0 (al20 h 21 (by decide)) (by decide) hg dX5_wind_53 ?_
      refine lv_iload_n hx hb dX5_wind_54 rfl (lv_at hl 3 rfl) ?_
      refine lv_iadd hx hb dX5_wind_55 ?_
      refine r_min C0 hl.1 wML_X5_61 (Nat.le_of_ble_eq_true rfl) (Nat.le_of_ble_eq_true rfl) (Nat.le_of_ble_eq_true rfl) (Nat.le_of_ble_eq_true rfl) dX5_wind_56 ?_
      obtain ⟨hg, hF⟩ := grd hF
      refine ast C0 hK hW hS 21 0 (al20 h 21 (by decide)) (by decide) hg dX5_wind_59 (fun H locs hW hS => ?_)
      refine lv_aload_n hx hb dX5_wind_60 rfl (lv_at hl 1 rfl) ?_
      refine get20 C0 hK hW 0 (al20 h 20 (by decide)) 4 (by decide) wFL_X5_9 rfl rfl dX5_wind_61 ?_
      refine lv_iload_n hx hb dX5_wind_64 rfl (lv_at hl 0 rfl) ?_
      obtain ⟨hg, hF⟩ := grd hF
      refine ald C0 hK hW 21 0 (al20 h 21 (by decide)) (by decide) hg dX5_wind_65 ?_
      cases hF
      exact retI C0 hr hlk hW hS dX5_wind_66
    · rw [if_pos c4] at hF
      refine lv_aload_n hx hb dX5_wind_29 rfl (lv_at hl 0 rfl) ?_
      refine lv_iconst (v := 2) hx hb dX5_wind_30 (by decide) ?_
      obtain ⟨z5, hz5, hF⟩ := bnd hF
      refine inI (runV C0 hlo hK hZ hW hS (kX5_fail l lo g h _ 2  _ _ hz5) wCO_X5_fail wML_X5_52 wIM_X5_fail wSE_X5_X5_fail wIN_X5 hdX5_fail ⟨Nat.le_of_ble_eq_true rfl, Nat.le_of_ble_eq_true rfl⟩ (recvK hK hW (al20 h 20 (by decide)) (ct20 0) rfl) rfl hl.1 rfl (Nat.le_of_ble_eq_true rfl) dX5_wind_31 ⟨Nat.le_of_ble_eq_true rfl, Nat.le_of_ble_eq_true rfl⟩) hS (fun H locs hW hS => ?_)
      cases hF
      exact retI C0 hr hlk hW hS dX5_wind_34
  · rw [if_pos c2] at hF
    refine lv_aload_n hx hb dX5_wind_13 rfl (lv_at hl 0 rfl) ?_
    refine lv_iconst (v := 1) hx hb dX5_wind_14 (by decide) ?_
    obtain ⟨z6, hz6, hF⟩ := bnd hF
    refine inI (runV C0 hlo hK hZ hW hS (kX5_fail l lo g h _ 1  _ _ hz6) wCO_X5_fail wML_X5_52 wIM_X5_fail wSE_X5_X5_fail wIN_X5 hdX5_fail ⟨Nat.le_of_ble_eq_true rfl, Nat.le_of_ble_eq_true rfl⟩ (recvK hK hW (al20 h 20 (by decide)) (ct20 0) rfl) rfl hl.1 rfl (Nat.le_of_ble_eq_true rfl) dX5_wind_15 ⟨Nat.le_of_ble_eq_true rfl, Nat.le_of_ble_eq_true rfl⟩) hS (fun H locs hW hS => ?_)
    cases hF
    exact retI C0 hr hlk hW hS dX5_wind_18
theorem hdX5_brake : yX5_brake.cls = RX5 ∧ yX5_brake.cls ≠ "java/lang/invoke/MethodHandle" ∧ yX5_brake.cls ≠ "java/lang/invoke/VarHandle" ∧ (parseMethodDescriptor yX5_brake.desc).map (fun d => d.parameters.length) = some 2 := by decide +kernel
def FX5_brake (ns nb : Nat) (σ : Sg) (a1 : Int32) (a2 : Int32) : Option (Int32 × Sg) :=
  (FX5_isSpring ns nb σ a1).bind fun z1 => if z1.1 = 0 then (if ((sI z1.2 20 0 0 1).1 20 0 0) = 0 then ((FX5_sp ns nb (sI z1.2 20 0 0 1) a1 4).bind fun z4 => if z4.1 = 1 then (if a2 = 0 then (if (((5 * a1) + 4) < 0 ∨ 20 ≤ ((5 * a1) + 4).toNatClampNeg) then none else (some (1, (sI z4.2 21 0 ((5 * a1) + 4).toNatClampNeg 0)))) else (if (((5 * a1) + 4) < 0 ∨ 20 ≤ ((5 * a1) + 4).toNatClampNeg) then none else (some (1, (sI z4.2 21 0 ((5 * a1) + 4).toNatClampNeg 1))))) else (if a2 = 0 then (if (((5 * a1) + 4) < 0 ∨ 20 ≤ ((5 * a1) + 4).toNatClampNeg) then none else (some (0, (sI z4.2 21 0 ((5 * a1) + 4).toNatClampNeg 0)))) else (if (((5 * a1) + 4) < 0 ∨ 20 ≤ ((5 * a1) + 4).toNatClampNeg) then none else (some (0, (sI z4.2 21 0 ((5 * a1) + 4).toNatClampNeg 1)))))) else (some (0, (sI z1.2 20 0 0 1)))) else (if ((sI z1.2 20 0 0 0).1 20 0 0) = 0 then ((FX5_sp ns nb (sI z1.2 20 0 0 0) a1 4).bind fun z9 => if z9.1 = 1 then (if a2 = 0 then (if (((5 * a1) + 4) < 0 ∨ 20 ≤ ((5 * a1) + 4).toNatClampNeg) then none else (some (1, (sI z9.2 21 0 ((5 * a1) + 4).toNatClampNeg 0)))) else (if (((5 * a1) + 4) < 0 ∨ 20 ≤ ((5 * a1) + 4).toNatClampNeg) then none else (some (1, (sI z9.2 21 0 ((5 * a1) + 4).toNatClampNeg 1))))) else (if a2 = 0 then (if (((5 * a1) + 4) < 0 ∨ 20 ≤ ((5 * a1) + 4).toNatClampNeg) then none else (some (0, (sI z9.2 21 0 ((5 * a1) + 4).toNatClampNeg 0)))) else (if (((5 * a1) + 4) < 0 ∨ 20 ≤ ((5 * a1) + 4).toNatClampNeg) then none else (some (0, (sI z9.2 21 0 ((5 * a1) + 4).toNatClampNeg 1)))))) else (some (0, (sI z1.2 20 0 0 0))))
set_option maxHeartbeats 4000000 in
set_option maxRecDepth 100000 in
theorem kX5_brake (l : Launch) (lo : Nat) (g : Gx) (h : Sh) (σ : Sg) (a1 : Int32) (a2 : Int32)  (r : Int32) (σ1 : Sg) (hF : FX5_brake h.1 h.2.1 σ a1 a2 = some (r, σ1)) : MI l yX5_brake (ws_ yX5_brake cX5_brake 4 (some .boolean)) 2 43 0 0 lo g h [.ref (h.2.2 20 0), .int a1, .int a2] σ r σ1 := by
  refine ofB (own := RX5) (by decide +kernel) rfl (fun p e s m below meth c C0 hr hlk hlo hK hZ hW hS ls hl => ?_) (Nat.le_of_ble_eq_true rfl)
  have hx := C0.1
  have hb := C0.2.1
  have hl : lv_has ls 4 [(0, .ref (h.2.2 20 0)), (1, .int a1), (2, .int a2)] := hl
  unfold FX5_brake at hF
  refine lv_aload_n hx hb dX5_brake_0 rfl (lv_at hl 0 rfl) ?_
  refine lv_aload_n hx hb dX5_brake_1 rfl (lv_at hl 0 rfl) ?_
  refine lv_iload_n hx hb dX5_brake_2 rfl (lv_at hl 1 rfl) ?_
  obtain ⟨z1, hz1, hF⟩ := bnd hF
  refine inI (runV C0 hlo hK hZ hW hS (kX5_isSpring l lo g h _ a1  _ _ hz1) wCO_X5_isSpring wML_X5_56 wIM_X5_isSpring wSE_X5_X5_isSpring wIN_X5 hdX5_isSpring ⟨Nat.le_of_ble_eq_true rfl, Nat.le_of_ble_eq_true rfl⟩ (recvK hK hW (al20 h 20 (by decide)) (ct20 0) rfl) rfl hl.1 rfl (Nat.le_of_ble_eq_true rfl) dX5_brake_3 ⟨Nat.le_of_ble_eq_true rfl, Nat.le_of_ble_eq_true rfl⟩) hS (fun H locs hW hS => ?_)
  refine lv_if_eq (tgt := 13) hx hb dX5_brake_6 (by decide) (fun c2 => ?_) (fun c2 => ?_)
  · rw [if_pos c2] at hF
    refine lv_iconst (v := 1) hx hb dX5_brake_13 (by decide) ?_
    refine put20_0 C0 hK hW hS 0 (al20 h 20 (by decide)) wFL_X5_38 dX5_brake_14 (fun H locs hW hS => ?_)
    refine lv_aload_n hx hb dX5_brake_17 rfl (lv_at hl 0 rfl) ?_
    refine get20 C0 hK hW 0 (al20 h 20 (by decide)) 0 (by decide) wFL_X5_38 rfl rfl dX5_brake_18 ?_
    refine lv_if_eq (tgt := 26) hx hb dX5_brake_21 (by decide) (fun c3 => ?_) (fun c3 => ?_)
    · rw [if_pos c3] at hF
      refine lv_aload_n hx hb dX5_brake_26 rfl (lv_at hl 0 rfl) ?_
      refine lv_iload_n hx hb dX5_brake_27 rfl (lv_at hl 1 rfl) ?_
      refine lv_iconst (v := 4) hx hb dX5_brake_28 (by decide) ?_
      obtain ⟨z4, hz4, hF⟩ := bnd hF
      refine inI (runV C0 hlo hK hZ hW hS (kX5_sp l lo g h _ a1 4  _ _ hz4) wCO_X5_sp wML_X5_67 wIM_X5_sp wSE_X5_X5_sp wIN_X5 hdX5_sp ⟨Nat.le_of_ble_eq_true rfl, Nat.le_of_ble_eq_true rfl⟩ (recvK hK hW (al20 h 20 (by decide)) (ct20 0) rfl) rfl hl.1 rfl (Nat.le_of_ble_eq_true rfl) dX5_brake_29 ⟨Nat.le_of_ble_eq_true rfl, Nat.le_of_ble_eq_true rfl⟩) hS (fun H locs hW hS => ?_)
      refine lv_iconst (v := 1) hx hb dX5_brake_32 (by decide) ?_
      refine lv_icmp_ne (tgt := 40) hx hb dX5_brake_33 (by decide) (fun c5 => ?_) (fun c5 => ?_)
      · rw [if_neg c5] at hF
        refine lv_iconst (v := 0) hx hb dX5_brake_40 (by decide) ?_
        refine lv_istore_n (lv' := [(3, .int 0), (0, .ref (h.2.2 20 0)), (1, .int a1), (2, .int a2)]) hx hb dX5_brake_41 rfl hl (by decide) rfl (fun ls hl => ?_)
        refine lv_aload_n hx hb dX5_brake_42 rfl (lv_at hl 1 rfl) ?_
        refine get20 C0 hK hW 0 (al20 h 20 (by decide)) 4 (by decide) wFL_X5_9 rfl rfl dX5_brake_43 ?_
        refine lv_iconst (v := 5) hx hb dX5_brake_46 (by decide) ?_
        refine lv_iload_n hx hb dX5_brake_47 rfl (lv_at hl 2 rfl) ?_
        refine lv_imul hx hb dX5_brake_48 ?_
        refine lv_iconst (v := 4) hx hb dX5_brake_49 (by decide) ?_
        refine lv_iadd hx hb dX5_brake_50 ?_
        refine lv_iload_n hx hb dX5_brake_51 rfl (lv_at hl 3 rfl) ?_
        refine lv_if_eq (tgt := 59) hx hb dX5_brake_52 (by decide) (fun c6 => ?_) (fun c6 => ?_)
        · rw [if_pos c6] at hF
          refine lv_iconst (v := 0) hx hb dX5_brake_59 (by decide) ?_
          obtain ⟨hg, hF⟩ := grd hF
          refine ast C0 hK hW hS 21 0 (al20 h 21 (by decide)) (by decide) hg dX5_brake_60 (fun H locs hW hS => ?_)
          refine lv_iload_n hx hb dX5_brake_61 rfl (lv_at hl 0 rfl) ?_
          cases hF
          exact retZ C0 hr hlk (Or.inl rfl) hW hS dX5_brake_62
        · rw [if_neg c6] at hF
          refine lv_iconst (v := 1) hx hb dX5_brake_55 (by decide) ?_
          refine lv_goto (tgt := 60) hx hb dX5_brake_56 (by decide) ?_
          obtain ⟨hg, hF⟩ := grd hF
          refine ast C0 hK hW hS 21 0 (al20 h 21 (by decide)) (by decide) hg dX5_brake_60 (fun H locs hW hS => ?_)
          refine lv_iload_n hx hb dX5_brake_61 rfl (lv_at hl 0 rfl) ?_
          cases hF
          exact retZ C0 hr hlk (Or.inl rfl) hW hS dX5_brake_62
      · rw [if_pos c5] at hF
        refine lv_iconst (v := 1) hx hb dX5_brake_36 (by decide) ?_
        refine lv_goto (tgt := 41) hx hb dX5_brake_37 (by decide) ?_
        refine lv_istore_n (lv' := [(3, .int 1), (0, .ref (h.2.2 20 0)), (1, .int a1), (2, .int a2)]) hx hb dX5_brake_41 rfl hl (by decide) rfl (fun ls hl => ?_)
        refine lv_aload_n hx hb dX5_brake_42 rfl (lv_at hl 1 rfl) ?_
        refine get20 C0 hK hW 0 (al20 h 20 (by decide)) 4 (by decide) wFL_X5_9 rfl rfl dX5_brake_43 ?_
        refine lv_iconst (v := 5) hx hb dX5_brake_46 (by decide) ?_
        refine lv_iload_n hx hb dX5_brake_47 rfl (lv_at hl 2 rfl) ?_
        refine lv_imul hx hb dX5_brake_48 ?_
        refine lv_iconst (v := 4) hx hb dX5_brake_49 (by decide) ?_
        refine lv_iadd hx hb dX5_brake_50 ?_
        refine lv_iload_n hx hb dX5_brake_51 rfl (lv_at hl 3 rfl) ?_
        refine lv_if_eq (tgt := 59) hx hb dX5_brake_52 (by decide) (fun c7 => ?_) (fun c7 => ?_)
        · rw [if_pos c7] at hF
          refine lv_iconst (v := 0) hx hb dX5_brake_59 (by decide) ?_
          obtain ⟨hg, hF⟩ := grd hF
          refine ast C0 hK hW hS 21 0 (al20 h 21 (by decide)) (by decide) hg dX5_brake_60 (fun H locs hW hS => ?_)
          refine lv_iload_n hx hb dX5_brake_61 rfl (lv_at hl 0 rfl) ?_
          cases hF
          exact retZ C0 hr hlk (Or.inr rfl) hW hS dX5_brake_62
        · rw [if_neg c7] at hF
          refine lv_iconst (v := 1) hx hb dX5_brake_55 (by decide) ?_
          refine lv_goto (tgt := 60) hx hb dX5_brake_56 (by decide) ?_
          obtain ⟨hg, hF⟩ := grd hF
          refine ast C0 hK hW hS 21 0 (al20 h 21 (by decide)) (by decide) hg dX5_brake_60 (fun H locs hW hS => ?_)
          refine lv_iload_n hx hb dX5_brake_61 rfl (lv_at hl 0 rfl) ?_
          cases hF
          exact retZ C0 hr hlk (Or.inr rfl) hW hS dX5_brake_62
    · rw [if_neg c3] at hF
      refine lv_iconst (v := 0) hx hb dX5_brake_24 (by decide) ?_
      cases hF
      exact retZ C0 hr hlk (Or.inl rfl) hW hS dX5_brake_25
  · rw [if_neg c2] at hF
    refine lv_iconst (v := 0) hx hb dX5_brake_9 (by decide) ?_
    refine lv_goto (tgt := 14) hx hb dX5_brake_10 (by decide) ?_
    refine put20_0 C0 hK hW hS 0 (al20 h 20 (by decide)) wFL_X5_38 dX5_brake_14 (fun H locs hW hS => ?_)
    refine lv_aload_n hx hb dX5_brake_17 rfl (lv_at hl 0 rfl) ?_
    refine get20 C0 hK hW 0 (al20 h 20 (by decide)) 0 (by decide) wFL_X5_38 rfl rfl dX5_brake_18 ?_
    refine lv_if_eq (tgt := 26) hx hb dX5_brake_21 (by decide) (fun c8 => ?_) (fun c8 => ?_)
    · rw [if_pos c8] at hF
      refine lv_aload_n hx hb dX5_brake_26 rfl (lv_at hl 0 rfl) ?_
      refine lv_iload_n hx hb dX5_brake_27 rfl (lv_at hl 1 rfl) ?_
      refine lv_iconst (v := 4) hx hb dX5_brake_28 (by decide) ?_
      obtain ⟨z9, hz9, hF⟩ := bnd hF
      refine inI (runV C0 hlo hK hZ hW hS (kX5_sp l lo g h _ a1 4  _ _ hz9) wCO_X5_sp wML_X5_67 wIM_X5_sp wSE_X5_X5_sp wIN_X5 hdX5_sp ⟨Nat.le_of_ble_eq_true rfl, Nat.le_of_ble_eq_true rfl⟩ (recvK hK hW (al20 h 20 (by decide)) (ct20 0) rfl) rfl hl.1 rfl (Nat.le_of_ble_eq_true rfl) dX5_brake_29 ⟨Nat.le_of_ble_eq_true rfl, Nat.le_of_ble_eq_true rfl⟩) hS (fun H locs hW hS => ?_)
      refine lv_iconst (v := 1) hx hb dX5_brake_32 (by decide) ?_
      refine lv_icmp_ne (tgt := 40) hx hb dX5_brake_33 (by decide) (fun c10 => ?_) (fun c10 => ?_)
      · rw [if_neg c10] at hF
        refine lv_iconst (v := 0) hx hb dX5_brake_40 (by decide) ?_
        refine lv_istore_n (lv' := [(3, .int 0), (0, .ref (h.2.2 20 0)), (1, .int a1), (2, .int a2)]) hx hb dX5_brake_41 rfl hl (by decide) rfl (fun ls hl => ?_)
        refine lv_aload_n hx hb dX5_brake_42 rfl (lv_at hl 1 rfl) ?_
        refine get20 C0 hK hW 0 (al20 h 20 (by decide)) 4 (by decide) wFL_X5_9 rfl rfl dX5_brake_43 ?_
        refine lv_iconst (v := 5) hx hb dX5_brake_46 (by decide) ?_
        refine lv_iload_n hx hb dX5_brake_47 rfl (lv_at hl 2 rfl) ?_
        refine lv_imul hx hb dX5_brake_48 ?_
        refine lv_iconst (v := 4) hx hb dX5_brake_49 (by decide) ?_
        refine lv_iadd hx hb dX5_brake_50 ?_
        refine lv_iload_n hx hb dX5_brake_51 rfl (lv_at hl 3 rfl) ?_
        refine lv_if_eq (tgt := 59) hx hb dX5_brake_52 (by decide) (fun c11 => ?_) (fun c11 => ?_)
        · rw [if_pos c11] at hF
          refine lv_iconst (v := 0) hx hb dX5_brake_59 (by decide) ?_
          obtain ⟨hg, hF⟩ := grd hF
          refine ast C0 hK hW hS 21 0 (al20 h 21 (by decide)) (by decide) hg dX5_brake_60 (fun H locs hW hS => ?_)
          refine lv_iload_n hx hb dX5_brake_61 rfl (lv_at hl 0 rfl) ?_
          cases hF
          exact retZ C0 hr hlk (Or.inl rfl) hW hS dX5_brake_62
        · rw [if_neg c11] at hF
          refine lv_iconst (v := 1) hx hb dX5_brake_55 (by decide) ?_
          refine lv_goto (tgt := 60) hx hb dX5_brake_56 (by decide) ?_
          obtain ⟨hg, hF⟩ := grd hF
          refine ast C0 hK hW hS 21 0 (al20 h 21 (by decide)) (by decide) hg dX5_brake_60 (fun H locs hW hS => ?_)
          refine lv_iload_n hx hb dX5_brake_61 rfl (lv_at hl 0 rfl) ?_
          cases hF
          exact retZ C0 hr hlk (Or.inl rfl) hW hS dX5_brake_62
      · rw [if_pos c10] at hF
        refine lv_iconst (v := 1) hx hb dX5_brake_36 (by decide) ?_
        refine lv_goto (tgt := 41) hx hb dX5_brake_37 (by decide) ?_
        refine lv_istore_n (lv' := [(3, .int 1), (0, .ref (h.2.2 20 0)), (1, .int a1), (2, .int a2)]) hx hb dX5_brake_41 rfl hl (by decide) rfl (fun ls hl => ?_)
        refine lv_aload_n hx hb dX5_brake_42 rfl (lv_at hl 1 rfl) ?_
        refine get20 C0 hK hW 0 (al20 h 20 (by decide)) 4 (by decide) wFL_X5_9 rfl rfl dX5_brake_43 ?_
        refine lv_iconst (v := 5) hx hb dX5_brake_46 (by decide) ?_
        refine lv_iload_n hx hb dX5_brake_47 rfl (lv_at hl 2 rfl) ?_
        refine lv_imul hx hb dX5_brake_48 ?_
        refine lv_iconst (v := 4) hx hb dX5_brake_49 (by decide) ?_
        refine lv_iadd hx hb dX5_brake_50 ?_
        refine lv_iload_n hx hb dX5_brake_51 rfl (lv_at hl 3 rfl) ?_
        refine lv_if_eq (tgt := 59) hx hb dX5_brake_52 (by decide) (fun c12 => ?_) (fun c12 => ?_)
        · rw [if_pos c12] at hF
          refine lv_iconst (v := 0) hx hb dX5_brake_59 (by decide) ?_
          obtain ⟨hg, hF⟩ := grd hF
          refine ast C0 hK hW hS 21 0 (al20 h 21 (by decide)) (by decide) hg dX5_brake_60 (fun H locs hW hS => ?_)
          refine lv_iload_n hx hb dX5_brake_61 rfl (lv_at hl 0 rfl) ?_
          cases hF
          exact retZ C0 hr hlk (Or.inr rfl) hW hS dX5_brake_62
        · rw [if_neg c12] at hF
          refine lv_iconst (v := 1) hx hb dX5_brake_55 (by decide) ?_
          refine lv_goto (tgt := 60) hx hb dX5_brake_56 (by decide) ?_
          obtain ⟨hg, hF⟩ := grd hF
          refine ast C0 hK hW hS 21 0 (al20 h 21 (by decide)) (by decide) hg dX5_brake_60 (fun H locs hW hS => ?_)
          refine lv_iload_n hx hb dX5_brake_61 rfl (lv_at hl 0 rfl) ?_
          cases hF
          exact retZ C0 hr hlk (Or.inr rfl) hW hS dX5_brake_62
    · rw [if_neg c8] at hF
      refine lv_iconst (v := 0) hx hb dX5_brake_24 (by decide) ?_
      cases hF
      exact retZ C0 hr hlk (Or.inl rfl) hW hS dX5_brake_25
theorem hdX5_pairs : yX5_pairs.cls = RX5 ∧ yX5_pairs.cls ≠ "java/lang/invoke/MethodHandle" ∧ yX5_pairs.cls ≠ "java/lang/invoke/VarHandle" ∧ (parseMethodDescriptor yX5_pairs.desc).map (fun d => d.parameters.length) = some 0 := by decide +kernel
def LX5_pairs_4 (ns nb : Nat) : Nat → Int32 → Int32 → Sg → Option (Int32 × Sg)
  | 0, _, _, _ => none
  | n + 1, v1, v2, σ => if 16 ≤ v2 then (some (v1, σ)) else (if (v2 < 0 ∨ 16 ≤ v2.toNatClampNeg) then none else (if (σ.1 23 0 v2.toNatClampNeg) = 0 then (LX5_pairs_4 ns nb  n (v1 + 0) (v2 + 1) σ) else (LX5_pairs_4 ns nb  n (v1 + 1) (v2 + 1) σ)))
def FX5_pairs (ns nb : Nat) (σ : Sg)  : Option (Int32 × Sg) :=
  (LX5_pairs_4 ns nb  4100 0 0 σ).bind fun z3 => some (z3.1, z3.2)
set_option maxHeartbeats 4000000 in
set_option maxRecDepth 100000 in
theorem lX5_pairs_4 {p : Program} {l : Launch} {e : Env} {s : State} {m : MethodId} {args : Array Value} {below : List Frame} {meth : Method} {c : Code} {Q : State → Prop} {lo : Nat} {g : Gx} {h : Sh} (C0 : CallFix p m c cX5_pairs 3 s args wB RX5) (hlo : lo ≤ s.heap.size) (hK : KW g s) (hZ : ZW lo s s.heap)   : ∀ (n : Nat) (v1 : Int32) (v2 : Int32) (σ : Sg) (z : (Int32 × Sg)) (hF : LX5_pairs_4 h.1 h.2.1  n v1 v2 σ = some z) (H : Heap) (locs : List Loc) (ls : Array Slot) (hW : FW g h (Ax lo) σ H) (hS : va_S (Ax lo) s.heap H locs) (hl : lv_has ls 3 [(0, .ref (h.2.2 20 0)), (1, .int v1), (2, .int v2)]) (kk : ∀ (H : Heap) (locs : List Loc) (ls : Array Slot), FW g h (Ax lo) z.2 H → va_S (Ax lo) s.heap H locs → lv_has ls 3 [(1, .int z.1)] → W p l e { frames := 0, cells := 0, slots := 0, locals := 0 } s m args below meth c H locs 0 0 Q (F0 m 33 ls [])), W p l e { frames := 0, cells := 0, slots := 0, locals := 0 } s m args below meth c H locs 0 0 Q (F0 m 4 ls []) := by
  have hx := C0.1
  have hb := C0.2.1
  intro n
  induction n with
  | zero =>
    intro v1 v2 σ z hF
    rw [LX5_pairs_4] at hF
    cases hF
  | succ n ih =>
    intro v1 v2 σ z hF H locs ls hW hS hl kk
    rw [LX5_pairs_4] at hF
    refine lv_iload_n hx hb dX5_pairs_4 rfl (lv_at hl 2 rfl) ?_
    refine lv_bipush (v := 16) hx hb dX5_pairs_5 (by decide) ?_
    refine lv_icmp_ge (tgt := 33) hx hb dX5_pairs_7 (by decide) (fun c1 => ?_) (fun c1 => ?_)
    · rw [if_pos c1] at hF
      cases hF
      exact kk _ _ _ hW hS (lv_sub hl [1] rfl)
    · rw [if_neg c1] at hF
      refine lv_iload_n hx hb dX5_pairs_10 rfl (lv_at hl 1 rfl) ?_
      refine lv_aload_n hx hb dX5_pairs_11 rfl (lv_at hl 0 rfl) ?_
      refine get20 C0 hK hW 0 (al20 h 20 (by decide)) 6 (by decide) wFL_X5_16 rfl rfl dX5_pairs_12 ?_
      refine lv_iload_n hx hb dX5_pairs_15 rfl (lv_at hl 2 rfl) ?_
      obtain ⟨hg, hF⟩ := grd hF
      refine zld C0 hK hW hg dX5_pairs_16 ?_
      refine lv_if_eq (tgt := 24) hx hb dX5_pairs_17 (by decide) (fun c2 => ?_) (fun c2 => ?_)
      · rw [if_pos c2] at hF
        refine lv_iconst (v := 0) hx hb dX5_pairs_24 (by decide) ?_
        refine lv_iadd hx hb dX5_pairs_25 ?_
        refine lv_istore_n (lv' := [(1, .int (v1 + 0)), (0, .ref (h.2.2 20 0)), (2, .int v2)]) hx hb dX5_pairs_26 rfl hl (by decide) rfl (fun ls hl => ?_)
        refine lv_iinc (v := v2 + 1) (lv' := [(2, .int (v2 + 1)), (1, .int (v1 + 0)), (0, .ref (h.2.2 20 0))]) hx hb dX5_pairs_27 hl (k := 2) rfl rfl (by decide) rfl (fun ls hl => ?_)
        refine lv_goto (tgt := 4) hx hb dX5_pairs_30 (by decide) ?_
        exact ih (v1 + 0) (v2 + 1) σ z hF _ _ _ hW hS (lv_sub hl [2, 1, 0] rfl) kk
      · rw [if_neg c2] at hF
        refine lv_iconst (v := 1) hx hb dX5_pairs_20 (by decide) ?_
        refine lv_goto (tgt := 25) hx hb dX5_pairs_21 (by decide) ?_
        refine lv_iadd hx hb dX5_pairs_25 ?_
        refine lv_istore_n (lv' := [(1, .int (v1 + 1)), (0, .ref (h.2.2 20 0)), (2, .int v2)]) hx hb dX5_pairs_26 rfl hl (by decide) rfl (fun ls hl => ?_)
        refine lv_iinc (v := v2 + 1) (lv' := [(2, .int (v2 + 1)), (1, .int (v1 + 1)), (0, .ref (h.2.2 20 0))]) hx hb dX5_pairs_27 hl (k := 2) rfl rfl (by decide) rfl (fun ls hl => ?_)
        refine lv_goto (tgt := 4) hx hb dX5_pairs_30 (by decide) ?_
        exact ih (v1 + 1) (v2 + 1) σ z hF _ _ _ hW hS (lv_sub hl [2, 1, 0] rfl) kk
set_option maxHeartbeats 4000000 in
set_option maxRecDepth 100000 in
theorem kX5_pairs (l : Launch) (lo : Nat) (g : Gx) (h : Sh) (σ : Sg)   (r : Int32) (σ1 : Sg) (hF : FX5_pairs h.1 h.2.1 σ  = some (r, σ1)) : MI l yX5_pairs (ws_ yX5_pairs cX5_pairs 3 (some .int)) 0 0 0 0 lo g h [.ref (h.2.2 20 0)] σ r σ1 := by
  refine ofB (own := RX5) (by decide +kernel) rfl (fun p e s m below meth c C0 hr hlk hlo hK hZ hW hS ls hl => ?_) (Nat.le_of_ble_eq_true rfl)
  have hx := C0.1
  have hb := C0.2.1
  have hl : lv_has ls 3 [(0, .ref (h.2.2 20 0))] := hl
  unfold FX5_pairs at hF
  refine lv_iconst (v := 0) hx hb dX5_pairs_0 (by decide) ?_
  refine lv_istore_n (lv' := [(1, .int 0), (0, .ref (h.2.2 20 0))]) hx hb dX5_pairs_1 rfl hl (by decide) rfl (fun ls hl => ?_)
  refine lv_iconst (v := 0) hx hb dX5_pairs_2 (by decide) ?_
  refine lv_istore_n (lv' := [(2, .int 0), (1, .int 0), (0, .ref (h.2.2 20 0))]) hx hb dX5_pairs_3 rfl hl (by decide) rfl (fun ls hl => ?_)
  obtain ⟨z3, hz3, hF⟩ := bnd hF
  refine lX5_pairs_4 C0 hlo hK hZ   _ 0 0 _ z3 hz3 _ _ _ hW hS (lv_sub hl [2, 1, 0] rfl) (fun H locs ls hW hS hl => ?_)
  refine lv_iload_n hx hb dX5_pairs_33 rfl (lv_at hl 0 rfl) ?_
  cases hF
  exact retI C0 hr hlk hW hS dX5_pairs_34
theorem hdX5_couple : yX5_couple.cls = RX5 ∧ yX5_couple.cls ≠ "java/lang/invoke/MethodHandle" ∧ yX5_couple.cls ≠ "java/lang/invoke/VarHandle" ∧ (parseMethodDescriptor yX5_couple.desc).map (fun d => d.parameters.length) = some 3 := by decide +kernel
def FX5_couple (ns nb : Nat) (σ : Sg) (a1 : Int32) (a2 : Int32) (a3 : Int32) : Option (Int32 × Sg) :=
  (FX5_isSpring ns nb (sI σ 20 0 0 0) a1).bind fun z1 => if z1.1 = 0 then ((FX5_fail ns nb z1.2 1).bind fun z3 => some (z3.1, z3.2)) else ((FX5_isSpring ns nb z1.2 a2).bind fun z4 => if z4.1 = 0 then ((FX5_fail ns nb z4.2 1).bind fun z9 => some (z9.1, z9.2)) else (if a1 = a2 then ((FX5_fail ns nb z4.2 2).bind fun z8 => some (z8.1, z8.2)) else (if (((4 * (mnI a1 a2)) + (mxI a1 a2)) < 0 ∨ 16 ≤ ((4 * (mnI a1 a2)) + (mxI a1 a2)).toNatClampNeg) then none else ((FX5_pairs ns nb (sI z4.2 23 0 ((4 * (mnI a1 a2)) + (mxI a1 a2)).toNatClampNeg (vp_nar .boolean a3)) ).bind fun z7 => some (z7.1, z7.2)))))
set_option maxHeartbeats 4000000 in
set_option maxRecDepth 100000 in
theorem kX5_couple (l : Launch) (lo : Nat) (g : Gx) (h : Sh) (σ : Sg) (a1 : Int32) (a2 : Int32) (a3 : Int32)  (r : Int32) (σ1 : Sg) (hF : FX5_couple h.1 h.2.1 σ a1 a2 a3 = some (r, σ1)) : MI l yX5_couple (ws_ yX5_couple cX5_couple 4 (some .int)) 2 43 0 0 lo g h [.ref (h.2.2 20 0), .int a1, .int a2, .int a3] σ r σ1 := by
  refine ofB (own := RX5) (by decide +kernel) rfl (fun p e s m below meth c C0 hr hlk hlo hK hZ hW hS ls hl => ?_) (Nat.le_of_ble_eq_true rfl)
  have hx := C0.1
  have hb := C0.2.1
  have hl : lv_has ls 4 [(0, .ref (h.2.2 20 0)), (1, .int a1), (2, .int a2), (3, .int a3)] := hl
  unfold FX5_couple at hF
  refine lv_aload_n hx hb dX5_couple_0 rfl (lv_at hl 0 rfl) ?_
  refine lv_iconst (v := 0) hx hb dX5_couple_1 (by decide) ?_
  refine put20_0 C0 hK hW hS 0 (al20 h 20 (by decide)) wFL_X5_38 dX5_couple_2 (fun H locs hW hS => ?_)
  refine lv_aload_n hx hb dX5_couple_5 rfl (lv_at hl 0 rfl) ?_
  refine lv_iload_n hx hb dX5_couple_6 rfl (lv_at hl 1 rfl) ?_
  obtain ⟨z1, hz1, hF⟩ := bnd hF
  refine inI (runV C0 hlo hK hZ hW hS (kX5_isSpring l lo g h _ a1  _ _ hz1) wCO_X5_isSpring wML_X5_56 wIM_X5_isSpring wSE_X5_X5_isSpring wIN_X5 hdX5_isSpring ⟨Nat.le_of_ble_eq_true rfl, Nat.le_of_ble_eq_true rfl⟩ (recvK hK hW (al20 h 20 (by decide)) (ct20 0) rfl) rfl hl.1 rfl (Nat.le_of_ble_eq_true rfl) dX5_couple_7 ⟨Nat.le_of_ble_eq_true rfl, Nat.le_of_ble_eq_true rfl⟩) hS (fun H locs hW hS => ?_)
  refine lv_if_eq (tgt := 21) hx hb dX5_couple_10 (by decide) (fun c2 => ?_) (fun c2 => ?_)
  · rw [if_pos c2] at hF
    refine lv_aload_n hx hb dX5_couple_21 rfl (lv_at hl 0 rfl) ?_
    refine lv_iconst (v := 1) hx hb dX5_couple_22 (by decide) ?_
    obtain ⟨z3, hz3, hF⟩ := bnd hF
    refine inI (runV C0 hlo hK hZ hW hS (kX5_fail l lo g h _ 1  _ _ hz3) wCO_X5_fail wML_X5_52 wIM_X5_fail wSE_X5_X5_fail wIN_X5 hdX5_fail ⟨Nat.le_of_ble_eq_true rfl, Nat.le_of_ble_eq_true rfl⟩ (recvK hK hW (al20 h 20 (by decide)) (ct20 0) rfl) rfl hl.1 rfl (Nat.le_of_ble_eq_true rfl) dX5_couple_23 ⟨Nat.le_of_ble_eq_true rfl, Nat.le_of_ble_eq_true rfl⟩) hS (fun H locs hW hS => ?_)
    cases hF
    exact retI C0 hr hlk hW hS dX5_couple_26
  · rw [if_neg c2] at hF
    refine lv_aload_n hx hb dX5_couple_13 rfl (lv_at hl 0 rfl) ?_
    refine lv_iload_n hx hb dX5_couple_14 rfl (lv_at hl 2 rfl) ?_
    obtain ⟨z4, hz4, hF⟩ := bnd hF
    refine inI (runV C0 hlo hK hZ hW hS (kX5_isSpring l lo g h _ a2  _ _ hz4) wCO_X5_isSpring wML_X5_56 wIM_X5_isSpring wSE_X5_X5_isSpring wIN_X5 hdX5_isSpring ⟨Nat.le_of_ble_eq_true rfl, Nat.le_of_ble_eq_true rfl⟩ (recvK hK hW (al20 h 20 (by decide)) (ct20 0) rfl) rfl hl.1 rfl (Nat.le_of_ble_eq_true rfl) dX5_couple_15 ⟨Nat.le_of_ble_eq_true rfl, Nat.le_of_ble_eq_true rfl⟩) hS (fun H locs hW hS => ?_)
    refine lv_if_ne (tgt := 27) hx hb dX5_couple_18 (by decide) (fun c5 => ?_) (fun c5 => ?_)
    · rw [if_neg c5] at hF
      refine lv_iload_n hx hb dX5_couple_27 rfl (lv_at hl 1 rfl) ?_
      refine lv_iload_n hx hb dX5_couple_28 rfl (lv_at hl 2 rfl) ?_
      refine lv_icmp_ne (tgt := 38) hx hb dX5_couple_29 (by decide) (fun c6 => ?_) (fun c6 => ?_)
      · rw [if_neg c6] at hF
        refine lv_aload_n hx hb dX5_couple_38 rfl (lv_at hl 0 rfl) ?_
        refine get20 C0 hK hW 0 (al20 h 20 (by decide)) 6 (by decide) wFL_X5_16 rfl rfl dX5_couple_39 ?_
        refine lv_iconst (v := 4) hx hb dX5_couple_42 (by decide) ?_
        refine lv_iload_n hx hb dX5_couple_43 rfl (lv_at hl 1 rfl) ?_
        refine lv_iload_n hx hb dX5_couple_44 rfl (lv_at hl 2 rfl) ?_
        refine r_min C0 hl.1 wML_X5_61 (Nat.le_of_ble_eq_true rfl) (Nat.le_of_ble_eq_true rfl) (Nat.le_of_ble_eq_true rfl) (Nat.le_of_ble_eq_true rfl) dX5_couple_45 ?_
        refine lv_imul hx hb dX5_couple_48 ?_
        refine lv_iload_n hx hb dX5_couple_49 rfl (lv_at hl 1 rfl) ?_
        refine lv_iload_n hx hb dX5_couple_50 rfl (lv_at hl 2 rfl) ?_
        refine r_max C0 hl.1 wML_X5_70 (Nat.le_of_ble_eq_true rfl) (Nat.le_of_ble_eq_true rfl) (Nat.le_of_ble_eq_true rfl) (Nat.le_of_ble_eq_true rfl) dX5_couple_51 ?_
        refine lv_iadd hx hb dX5_couple_54 ?_
        refine lv_iload_n hx hb dX5_couple_55 rfl (lv_at hl 3 rfl) ?_
        obtain ⟨hg, hF⟩ := grd hF
        refine zst C0 hK hW hS hg dX5_couple_56 (fun H locs hW hS => ?_)
        refine lv_aload_n hx hb dX5_couple_57 rfl (lv_at hl 0 rfl) ?_
        obtain ⟨z7, hz7, hF⟩ := bnd hF
        refine inI (runV C0 hlo hK hZ hW hS (kX5_pairs l lo g h _   _ _ hz7) wCO_X5_pairs wML_X5_73 wIM_X5_pairs wSE_X5_X5_pairs wIN_X5 hdX5_pairs ⟨Nat.le_of_ble_eq_true rfl, Nat.le_of_ble_eq_true rfl⟩ (recvK hK hW (al20 h 20 (by decide)) (ct20 0) rfl) rfl hl.1 rfl (Nat.le_of_ble_eq_true rfl) dX5_couple_58 ⟨Nat.le_of_ble_eq_true rfl, Nat.le_of_ble_eq_true rfl⟩) hS (fun H locs hW hS => ?_)
        cases hF
        exact retI C0 hr hlk hW hS dX5_couple_61
      · rw [if_pos c6] at hF
        refine lv_aload_n hx hb dX5_couple_32 rfl (lv_at hl 0 rfl) ?_
        refine lv_iconst (v := 2) hx hb dX5_couple_33 (by decide) ?_
        obtain ⟨z8, hz8, hF⟩ := bnd hF
        refine inI (runV C0 hlo hK hZ hW hS (kX5_fail l lo g h _ 2  _ _ hz8) wCO_X5_fail wML_X5_52 wIM_X5_fail wSE_X5_X5_fail wIN_X5 hdX5_fail ⟨Nat.le_of_ble_eq_true rfl, Nat.le_of_ble_eq_true rfl⟩ (recvK hK hW (al20 h 20 (by decide)) (ct20 0) rfl) rfl hl.1 rfl (Nat.le_of_ble_eq_true rfl) dX5_couple_34 ⟨Nat.le_of_ble_eq_true rfl, Nat.le_of_ble_eq_true rfl⟩) hS (fun H locs hW hS => ?_)
        cases hF
        exact retI C0 hr hlk hW hS dX5_couple_37
    · rw [if_pos c5] at hF
      refine lv_aload_n hx hb dX5_couple_21 rfl (lv_at hl 0 rfl) ?_
      refine lv_iconst (v := 1) hx hb dX5_couple_22 (by decide) ?_
      obtain ⟨z9, hz9, hF⟩ := bnd hF
      refine inI (runV C0 hlo hK hZ hW hS (kX5_fail l lo g h _ 1  _ _ hz9) wCO_X5_fail wML_X5_52 wIM_X5_fail wSE_X5_X5_fail wIN_X5 hdX5_fail ⟨Nat.le_of_ble_eq_true rfl, Nat.le_of_ble_eq_true rfl⟩ (recvK hK hW (al20 h 20 (by decide)) (ct20 0) rfl) rfl hl.1 rfl (Nat.le_of_ble_eq_true rfl) dX5_couple_23 ⟨Nat.le_of_ble_eq_true rfl, Nat.le_of_ble_eq_true rfl⟩) hS (fun H locs hW hS => ?_)
      cases hF
      exact retI C0 hr hlk hW hS dX5_couple_26
theorem hdX5_pointsOf : yX5_pointsOf.cls = RX5 ∧ yX5_pointsOf.cls ≠ "java/lang/invoke/MethodHandle" ∧ yX5_pointsOf.cls ≠ "java/lang/invoke/VarHandle" ∧ (parseMethodDescriptor yX5_pointsOf.desc).map (fun d => d.parameters.length) = some 2 := by decide +kernel
def LX5_pointsOf_5 (ns nb : Nat) (v1 : Int32) (v2 : Int32) : Nat → Int32 → Int32 → Sg → Option (Int32 × Sg)
  | 0, _, _, _ => none
  | n + 1, v3, v4, σ => (FX5_get ns nb σ v1 2).bind fun z1 => if z1.1 ≤ v4 then (some (v3, z1.2)) else ((FX5_cam ns nb z1.2 v1 v2).bind fun z3 => if ((z3.1 + v4) < 0 ∨ 2304 ≤ (z3.1 + v4).toNatClampNeg) then none else (if (z3.2.1 26 0 (z3.1 + v4).toNatClampNeg) = (-1) then (LX5_pointsOf_5 ns nb v1 v2 n (v3 + 0) (v4 + 1) z3.2) else (LX5_pointsOf_5 ns nb v1 v2 n (v3 + 1) (v4 + 1) z3.2)))
def FX5_pointsOf (ns nb : Nat) (σ : Sg) (a1 : Int32) (a2 : Int32) : Option (Int32 × Sg) :=
  (LX5_pointsOf_5 ns nb a1 a2 4100 0 0 σ).bind fun z5 => some (z5.1, z5.2)
set_option maxHeartbeats 4000000 in
set_option maxRecDepth 100000 in
theorem lX5_pointsOf_5 {p : Program} {l : Launch} {e : Env} {s : State} {m : MethodId} {args : Array Value} {below : List Frame} {meth : Method} {c : Code} {Q : State → Prop} {lo : Nat} {g : Gx} {h : Sh} (C0 : CallFix p m c cX5_pointsOf 5 s args wB RX5) (hlo : lo ≤ s.heap.size) (hK : KW g s) (hZ : ZW lo s s.heap) (v1 : Int32) (v2 : Int32)  : ∀ (n : Nat) (v3 : Int32) (v4 : Int32) (σ : Sg) (z : (Int32 × Sg)) (hF : LX5_pointsOf_5 h.1 h.2.1 v1 v2 n v3 v4 σ = some z) (H : Heap) (locs : List Loc) (ls : Array Slot) (hW : FW g h (Ax lo) σ H) (hS : va_S (Ax lo) s.heap H locs) (hl : lv_has ls 5 [(0, .ref (h.2.2 20 0)), (1, .int v1), (2, .int v2), (3, .int v3), (4, .int v4)]) (kk : ∀ (H : Heap) (locs : List Loc) (ls : Array Slot), FW g h (Ax lo) z.2 H → va_S (Ax lo) s.heap H locs → lv_has ls 5 [(3, .int z.1)] → W p l e { frames := 1, cells := 0, slots := 0, locals := 22 } s m args below meth c H locs 0 0 Q (F0 m 47 ls [])), W p l e { frames := 1, cells := 0, slots := 0, locals := 22 } s m args below meth c H locs 0 0 Q (F0 m 5 ls []) := by
  have hx := C0.1
  have hb := C0.2.1
  intro n
  induction n with
  | zero =>
    intro v3 v4 σ z hF
    rw [LX5_pointsOf_5] at hF
    cases hF
  | succ n ih =>
    intro v3 v4 σ z hF H locs ls hW hS hl kk
    rw [LX5_pointsOf_5] at hF
    refine lv_iload hx hb dX5_pointsOf_5 (lv_at hl 4 rfl) ?_
    refine lv_aload_n hx hb dX5_pointsOf_7 rfl (lv_at hl 0 rfl) ?_
    refine lv_iload_n hx hb dX5_pointsOf_8 rfl (lv_at hl 1 rfl) ?_
    refine lv_iconst (v := 2) hx hb dX5_pointsOf_9 (by decide) ?_
    obtain ⟨z1, hz1, hF⟩ := bnd hF
    refine inI (runV C0 hlo hK hZ hW hS (kX5_get l lo g h _ v1 2  _ _ hz1) wCO_X5_get wML_X5_77 wIM_X5_get wSE_X5_X5_get wIN_X5 hdX5_get ⟨Nat.le_of_ble_eq_true rfl, Nat.le_of_ble_eq_true rfl⟩ (recvK hK hW (al20 h 20 (by decide)) (ct20 0) rfl) rfl hl.1 rfl (Nat.le_of_ble_eq_true rfl) dX5_pointsOf_10 ⟨Nat.le_of_ble_eq_true rfl, Nat.le_of_ble_eq_true rfl⟩) hS (fun H locs hW hS => ?_)
    refine lv_icmp_ge (tgt := 47) hx hb dX5_pointsOf_13 (by decide) (fun c2 => ?_) (fun c2 => ?_)
    · rw [if_pos c2] at hF
      cases hF
      exact kk _ _ _ hW hS (lv_sub hl [3] rfl)
    · rw [if_neg c2] at hF
      refine lv_iload_n hx hb dX5_pointsOf_16 rfl (lv_at hl 3 rfl) ?_
      refine lv_aload_n hx hb dX5_pointsOf_17 rfl (lv_at hl 0 rfl) ?_
      refine get20 C0 hK hW 0 (al20 h 20 (by decide)) 9 (by decide) wFL_X5_26 rfl rfl dX5_pointsOf_18 ?_
      refine lv_iload_n hx hb dX5_pointsOf_21 rfl (lv_at hl 1 rfl) ?_
      refine lv_iload_n hx hb dX5_pointsOf_22 rfl (lv_at hl 2 rfl) ?_
      obtain ⟨z3, hz3, hF⟩ := bnd hF
      refine inI (runS C0 hlo hK hZ hW hS (kX5_cam l lo g h _ v1 v2  _ _ hz3) wCO_X5_cam wML_X5_103 wST_X5_cam wIN_X5 hdsX5_cam ⟨Nat.le_of_ble_eq_true rfl, Nat.le_of_ble_eq_true rfl⟩ rfl hl.1 rfl (Nat.le_of_ble_eq_true rfl) dX5_pointsOf_23 ⟨Nat.le_of_ble_eq_true rfl, Nat.le_of_ble_eq_true rfl⟩) hS (fun H locs hW hS => ?_)
      refine lv_iload hx hb dX5_pointsOf_26 (lv_at hl 4 rfl) ?_
      refine lv_iadd hx hb dX5_pointsOf_28 ?_
      obtain ⟨hg, hF⟩ := grd hF
      refine ald C0 hK hW 26 0 (al20 h 26 (by decide)) (by decide) hg dX5_pointsOf_29 ?_
      refine lv_iconst (v := (-1)) hx hb dX5_pointsOf_30 (by decide) ?_
      refine lv_icmp_eq (tgt := 38) hx hb dX5_pointsOf_31 (by decide) (fun c4 => ?_) (fun c4 => ?_)
      · rw [if_pos c4] at hF
        refine lv_iconst (v := 0) hx hb dX5_pointsOf_38 (by decide) ?_
        refine lv_iadd hx hb dX5_pointsOf_39 ?_
        refine lv_istore_n (lv' := [(3, .int (v3 + 0)), (0, .ref (h.2.2 20 0)), (1, .int v1), (2, .int v2), (4, .int v4)]) hx hb dX5_pointsOf_40 rfl hl (by decide) rfl (fun ls hl => ?_)
        refine lv_iinc (v := v4 + 1) (lv' := [(4, .int (v4 + 1)), (3, .int (v3 + 0)), (0, .ref (h.2.2 20 0)), (1, .int v1), (2, .int v2)]) hx hb dX5_pointsOf_41 hl (k := 4) rfl rfl (by decide) rfl (fun ls hl => ?_)
        refine lv_goto (tgt := 5) hx hb dX5_pointsOf_44 (by decide) ?_
        exact ih (v3 + 0) (v4 + 1) z3.2 z hF _ _ _ hW hS (lv_sub hl [2, 3, 4, 1, 0] rfl) kk
      · rw [if_neg c4] at hF
        refine lv_iconst (v := 1) hx hb dX5_pointsOf_34 (by decide) ?_
        refine lv_goto (tgt := 39) hx hb dX5_pointsOf_35 (by decide) ?_
        refine lv_iadd hx hb dX5_pointsOf_39 ?_
        refine lv_istore_n (lv' := [(3, .int (v3 + 1)), (0, .ref (h.2.2 20 0)), (1, .int v1), (2, .int v2), (4, .int v4)]) hx hb dX5_pointsOf_40 rfl hl (by decide) rfl (fun ls hl => ?_)
        refine lv_iinc (v := v4 + 1) (lv' := [(4, .int (v4 + 1)), (3, .int (v3 + 1)), (0, .ref (h.2.2 20 0)), (1, .int v1), (2, .int v2)]) hx hb dX5_pointsOf_41 hl (k := 4) rfl rfl (by decide) rfl (fun ls hl => ?_)
        refine lv_goto (tgt := 5) hx hb dX5_pointsOf_44 (by decide) ?_
        exact ih (v3 + 1) (v4 + 1) z3.2 z hF _ _ _ hW hS (lv_sub hl [2, 3, 4, 1, 0] rfl) kk
set_option maxHeartbeats 4000000 in
set_option maxRecDepth 100000 in
theorem kX5_pointsOf (l : Launch) (lo : Nat) (g : Gx) (h : Sh) (σ : Sg) (a1 : Int32) (a2 : Int32)  (r : Int32) (σ1 : Sg) (hF : FX5_pointsOf h.1 h.2.1 σ a1 a2 = some (r, σ1)) : MI l yX5_pointsOf (ws_ yX5_pointsOf cX5_pointsOf 5 (some .int)) 1 22 0 0 lo g h [.ref (h.2.2 20 0), .int a1, .int a2] σ r σ1 := by
  refine ofB (own := RX5) (by decide +kernel) rfl (fun p e s m below meth c C0 hr hlk hlo hK hZ hW hS ls hl => ?_) (Nat.le_of_ble_eq_true rfl)
  have hx := C0.1
  have hb := C0.2.1
  have hl : lv_has ls 5 [(0, .ref (h.2.2 20 0)), (1, .int a1), (2, .int a2)] := hl
  unfold FX5_pointsOf at hF
  refine lv_iconst (v := 0) hx hb dX5_pointsOf_0 (by decide) ?_
  refine lv_istore_n (lv' := [(3, .int 0), (0, .ref (h.2.2 20 0)), (1, .int a1), (2, .int a2)]) hx hb dX5_pointsOf_1 rfl hl (by decide) rfl (fun ls hl => ?_)
  refine lv_iconst (v := 0) hx hb dX5_pointsOf_2 (by decide) ?_
  refine lv_istore (lv' := [(4, .int 0), (3, .int 0), (0, .ref (h.2.2 20 0)), (1, .int a1), (2, .int a2)]) hx hb dX5_pointsOf_3 hl (by decide) rfl (fun ls hl => ?_)
  obtain ⟨z5, hz5, hF⟩ := bnd hF
  refine lX5_pointsOf_5 C0 hlo hK hZ a1 a2  _ 0 0 _ z5 hz5 _ _ _ hW hS (lv_sub hl [2, 3, 4, 1, 0] rfl) (fun H locs ls hW hS hl => ?_)
  refine lv_iload_n hx hb dX5_pointsOf_47 rfl (lv_at hl 0 rfl) ?_
  cases hF
  exact retI C0 hr hlk hW hS dX5_pointsOf_48
theorem hdX5_liftAt : yX5_liftAt.cls = RX5 ∧ yX5_liftAt.cls ≠ "java/lang/invoke/MethodHandle" ∧ yX5_liftAt.cls ≠ "java/lang/invoke/VarHandle" ∧ (parseMethodDescriptor yX5_liftAt.desc).map (fun d => d.parameters.length) = some 3 := by decide +kernel
def LX5_liftAt_18 (ns nb : Nat) (v3 : Int32) (v4 : Int32) (v5 : Int32) : Nat → Int32 → Sg → Option (Int32 × Sg)
  | 0, _, _ => none
  | n + 1, v6, σ => if v4 ≤ v6 then (some (v6, σ)) else (if v4 = 0 then none else (if ((v5 + (((v3 + v4) - v6) - ((v3 + v4) - v6) / v4 * v4)) < 0 ∨ 2304 ≤ (v5 + (((v3 + v4) - v6) - ((v3 + v4) - v6) / v4 * v4)).toNatClampNeg) then none else (if (σ.1 26 0 (v5 + (((v3 + v4) - v6) - ((v3 + v4) - v6) / v4 * v4)).toNatClampNeg) = (-1) then (LX5_liftAt_18 ns nb v3 v4 v5 n (v6 + 1) σ) else (some (v6, σ)))))
def LX5_liftAt_65 (ns nb : Nat) (v3 : Int32) (v4 : Int32) (v5 : Int32) (v6 : Int32) : Nat → Int32 → Sg → Option (Int32 × Sg)
  | 0, _, _ => none
  | n + 1, v7, σ => if v4 = 0 then none else (if ((v5 + ((v3 + v7) - (v3 + v7) / v4 * v4)) < 0 ∨ 2304 ≤ (v5 + ((v3 + v7) - (v3 + v7) / v4 * v4)).toNatClampNeg) then none else (if (σ.1 26 0 (v5 + ((v3 + v7) - (v3 + v7) / v4 * v4)).toNatClampNeg) = (-1) then (LX5_liftAt_65 ns nb v3 v4 v5 v6 n (v7 + 1) σ) else (some (v7, σ))))
def FX5_liftAt (ns nb : Nat) (σ : Sg) (a1 : Int32) (a2 : Int32) (a3 : Int32) : Option (Int32 × Sg) :=
  (FX5_get ns nb σ a1 2).bind fun z1 => (FX5_cam ns nb z1.2 a1 a2).bind fun z2 => (LX5_liftAt_18 ns nb a3 z1.1 z2.1 4100 0 z2.2).bind fun z5 => if z5.1 = z1.1 then (some (0, z5.2)) else ((LX5_liftAt_65 ns nb a3 z1.1 z2.1 z5.1 4100 1 z5.2).bind fun z8 => if z1.1 = 0 then none else (if ((z2.1 + (((a3 + z1.1) - z5.1) - ((a3 + z1.1) - z5.1) / z1.1 * z1.1)) < 0 ∨ 2304 ≤ (z2.1 + (((a3 + z1.1) - z5.1) - ((a3 + z1.1) - z5.1) / z1.1 * z1.1)).toNatClampNeg) then none else (if z1.1 = 0 then none else (if ((z2.1 + ((a3 + z8.1) - (a3 + z8.1) / z1.1 * z1.1)) < 0 ∨ 2304 ≤ (z2.1 + ((a3 + z8.1) - (a3 + z8.1) / z1.1 * z1.1)).toNatClampNeg) then none else ((FJ9_floorDiv_7cf53 ns nb z8.2 (((z8.2.1 26 0 (z2.1 + ((a3 + z8.1) - (a3 + z8.1) / z1.1 * z1.1)).toNatClampNeg) - (z8.2.1 26 0 (z2.1 + (((a3 + z1.1) - z5.1) - ((a3 + z1.1) - z5.1) / z1.1 * z1.1)).toNatClampNeg)) * z5.1) (z5.1 + z8.1)).bind fun z9 => some ((z8.2.1 26 0 (z2.1 + (((a3 + z1.1) - z5.1) - ((a3 + z1.1) - z5.1) / z1.1 * z1.1)).toNatClampNeg) + z9.1, z9.2))))))
set_option maxHeartbeats 4000000 in
set_option maxRecDepth 100000 in
theorem lX5_liftAt_18 {p : Program} {l : Launch} {e : Env} {s : State} {m : MethodId} {args : Array Value} {below : List Frame} {meth : Method} {c : Code} {Q : State → Prop} {lo : Nat} {g : Gx} {h : Sh} (C0 : CallFix p m c cX5_liftAt 10 s args wB RX5) (hlo : lo ≤ s.heap.size) (hK : KW g s) (hZ : ZW lo s s.heap) (v3 : Int32) (v4 : Int32) (v5 : Int32)  : ∀ (n : Nat) (v6 : Int32) (σ : Sg) (z : (Int32 × Sg)) (hF : LX5_liftAt_18 h.1 h.2.1 v3 v4 v5 n v6 σ = some z) (H : Heap) (locs : List Loc) (ls : Array Slot) (hW : FW g h (Ax lo) σ H) (hS : va_S (Ax lo) s.heap H locs) (hl : lv_has ls 10 [(0, .ref (h.2.2 20 0)), (3, .int v3), (4, .int v4), (5, .int v5), (6, .int v6)]) (kk : ∀ (H : Heap) (locs : List Loc) (ls : Array Slot), FW g h (Ax lo) z.2 H → va_S (Ax lo) s.heap H locs → lv_has ls 10 [(0, .ref (h.2.2 20 0)), (3, .int v3), (4, .int v4), (5, .int v5), (6, .int z.1)] → W p l e { frames := 1, cells := 0, slots := 0, locals := 22 } s m args below meth c H locs 0 0 Q (F0 m 53 ls [])), W p l e { frames := 1, cells := 0, slots := 0, locals := 22 } s m args below meth c H locs 0 0 Q (F0 m 18 ls []) := by
  have hx := C0.1
  have hb := C0.2.1
  intro n
  induction n with
  | zero =>
    intro v6 σ z hF
    rw [LX5_liftAt_18] at hF
    cases hF
  | succ n ih =>
    intro v6 σ z hF H locs ls hW hS hl kk
    rw [LX5_liftAt_18] at hF
    refine lv_iload hx hb dX5_liftAt_18 (lv_at hl 4 rfl) ?_
    refine lv_iload hx hb dX5_liftAt_20 (lv_at hl 2 rfl) ?_
    refine lv_icmp_ge (tgt := 53) hx hb dX5_liftAt_22 (by decide) (fun c3 => ?_) (fun c3 => ?_)
    · rw [if_pos c3] at hF
      cases hF
      exact kk _ _ _ hW hS (lv_sub hl [0, 1, 2, 3, 4] rfl)
    · rw [if_neg c3] at hF
      refine lv_aload_n hx hb dX5_liftAt_25 rfl (lv_at hl 0 rfl) ?_
      refine get20 C0 hK hW 0 (al20 h 20 (by decide)) 9 (by decide) wFL_X5_26 rfl rfl dX5_liftAt_26 ?_
      refine lv_iload hx hb dX5_liftAt_29 (lv_at hl 3 rfl) ?_
      refine lv_iload_n hx hb dX5_liftAt_31 rfl (lv_at hl 1 rfl) ?_
      refine lv_iload hx hb dX5_liftAt_32 (lv_at hl 2 rfl) ?_
      refine lv_iadd hx hb dX5_liftAt_34 ?_
      refine lv_iload hx hb dX5_liftAt_35 (lv_at hl 4 rfl) ?_
      refine lv_isub hx hb dX5_liftAt_37 ?_
      refine lv_iload hx hb dX5_liftAt_38 (lv_at hl 2 rfl) ?_
      obtain ⟨hg, hF⟩ := grd hF
      refine lv_irem hx hb dX5_liftAt_40 hg ?_
      refine lv_iadd hx hb dX5_liftAt_41 ?_
      obtain ⟨hg, hF⟩ := grd hF
      refine ald C0 hK hW 26 0 (al20 h 26 (by decide)) (by decide) hg dX5_liftAt_42 ?_
      refine lv_iconst (v := (-1)) hx hb dX5_liftAt_43 (by decide) ?_
      refine lv_icmp_ne (tgt := 53) hx hb dX5_liftAt_44 (by decide) (fun c4 => ?_) (fun c4 => ?_)
      · rw [if_neg c4] at hF
        cases hF
        exact kk _ _ _ hW hS (lv_sub hl [0, 1, 2, 3, 4] rfl)
      · rw [if_pos c4] at hF
        refine lv_iinc (v := v6 + 1) (lv' := [(6, .int (v6 + 1)), (0, .ref (h.2.2 20 0)), (3, .int v3), (4, .int v4), (5, .int v5)]) hx hb dX5_liftAt_47 hl (k := 4) rfl rfl (by decide) rfl (fun ls hl => ?_)
        refine lv_goto (tgt := 18) hx hb dX5_liftAt_50 (by decide) ?_
        exact ih (v6 + 1) σ z hF _ _ _ hW hS (lv_sub hl [1, 2, 3, 4, 0] rfl) kk
set_option maxHeartbeats 4000000 in
set_option maxRecDepth 100000 in
theorem lX5_liftAt_65 {p : Program} {l : Launch} {e : Env} {s : State} {m : MethodId} {args : Array Value} {below : List Frame} {meth : Method} {c : Code} {Q : State → Prop} {lo : Nat} {g : Gx} {h : Sh} (C0 : CallFix p m c cX5_liftAt 10 s args wB RX5) (hlo : lo ≤ s.heap.size) (hK : KW g s) (hZ : ZW lo s s.heap) (v3 : Int32) (v4 : Int32) (v5 : Int32) (v6 : Int32)  : ∀ (n : Nat) (v7 : Int32) (σ : Sg) (z : (Int32 × Sg)) (hF : LX5_liftAt_65 h.1 h.2.1 v3 v4 v5 v6 n v7 σ = some z) (H : Heap) (locs : List Loc) (ls : Array Slot) (hW : FW g h (Ax lo) σ H) (hS : va_S (Ax lo) s.heap H locs) (hl : lv_has ls 10 [(0, .ref (h.2.2 20 0)), (3, .int v3), (4, .int v4), (5, .int v5), (6, .int v6), (7, .int v7)]) (kk : ∀ (H : Heap) (locs : List Loc) (ls : Array Slot), FW g h (Ax lo) z.2 H → va_S (Ax lo) s.heap H locs → lv_has ls 10 [(0, .ref (h.2.2 20 0)), (3, .int v3), (4, .int v4), (5, .int v5), (6, .int v6), (7, .int z.1)] → W p l e { frames := 1, cells := 0, slots := 0, locals := 22 } s m args below meth c H locs 0 0 Q (F0 m 90 ls [])), W p l e { frames := 1, cells := 0, slots := 0, locals := 22 } s m args below meth c H locs 0 0 Q (F0 m 65 ls []) := by
  have hx := C0.1
  have hb := C0.2.1
  intro n
  induction n with
  | zero =>
    intro v7 σ z hF
    rw [LX5_liftAt_65] at hF
    cases hF
  | succ n ih =>
    intro v7 σ z hF H locs ls hW hS hl kk
    rw [LX5_liftAt_65] at hF
    refine lv_aload_n hx hb dX5_liftAt_65 rfl (lv_at hl 0 rfl) ?_
    refine get20 C0 hK hW 0 (al20 h 20 (by decide)) 9 (by decide) wFL_X5_26 rfl rfl dX5_liftAt_66 ?_
    refine lv_iload hx hb dX5_liftAt_69 (lv_at hl 3 rfl) ?_
    refine lv_iload_n hx hb dX5_liftAt_71 rfl (lv_at hl 1 rfl) ?_
    refine lv_iload hx hb dX5_liftAt_72 (lv_at hl 5 rfl) ?_
    refine lv_iadd hx hb dX5_liftAt_74 ?_
    refine lv_iload hx hb dX5_liftAt_75 (lv_at hl 2 rfl) ?_
    obtain ⟨hg, hF⟩ := grd hF
    refine lv_irem hx hb dX5_liftAt_77 hg ?_
    refine lv_iadd hx hb dX5_liftAt_78 ?_
    obtain ⟨hg, hF⟩ := grd hF
    refine ald C0 hK hW 26 0 (al20 h 26 (by decide)) (by decide) hg dX5_liftAt_79 ?_
    refine lv_iconst (v := (-1)) hx hb dX5_liftAt_80 (by decide) ?_
    refine lv_icmp_ne (tgt := 90) hx hb dX5_liftAt_81 (by decide) (fun c7 => ?_) (fun c7 => ?_)
    · rw [if_neg c7] at hF
      cases hF
      exact kk _ _ _ hW hS (lv_sub hl [0, 1, 2, 3, 4, 5] rfl)
    · rw [if_pos c7] at hF
      refine lv_iinc (v := v7 + 1) (lv' := [(7, .int (v7 + 1)), (0, .ref (h.2.2 20 0)), (3, .int v3), (4, .int v4), (5, .int v5), (6, .int v6)]) hx hb dX5_liftAt_84 hl (k := 5) rfl rfl (by decide) rfl (fun ls hl => ?_)
      refine lv_goto (tgt := 65) hx hb dX5_liftAt_87 (by decide) ?_
      exact ih (v7 + 1) σ z hF _ _ _ hW hS (lv_sub hl [1, 2, 3, 4, 5, 0] rfl) kk
set_option maxHeartbeats 4000000 in
set_option maxRecDepth 100000 in
theorem kX5_liftAt (l : Launch) (lo : Nat) (g : Gx) (h : Sh) (σ : Sg) (a1 : Int32) (a2 : Int32) (a3 : Int32)  (r : Int32) (σ1 : Sg) (hF : FX5_liftAt h.1 h.2.1 σ a1 a2 a3 = some (r, σ1)) : MI l yX5_liftAt (ws_ yX5_liftAt cX5_liftAt 10 (some .int)) 1 22 0 0 lo g h [.ref (h.2.2 20 0), .int a1, .int a2, .int a3] σ r σ1 := by
  refine ofB (own := RX5) (by decide +kernel) rfl (fun p e s m below meth c C0 hr hlk hlo hK hZ hW hS ls hl => ?_) (Nat.le_of_ble_eq_true rfl)
  have hx := C0.1
  have hb := C0.2.1
  have hl : lv_has ls 10 [(0, .ref (h.2.2 20 0)), (1, .int a1), (2, .int a2), (3, .int a3)] := hl
  unfold FX5_liftAt at hF
  refine lv_aload_n hx hb dX5_liftAt_0 rfl (lv_at hl 0 rfl) ?_
  refine lv_iload_n hx hb dX5_liftAt_1 rfl (lv_at hl 1 rfl) ?_
  refine lv_iconst (v := 2) hx hb dX5_liftAt_2 (by decide) ?_
  obtain ⟨z1, hz1, hF⟩ := bnd hF
  refine inI (runV C0 hlo hK hZ hW hS (kX5_get l lo g h _ a1 2  _ _ hz1) wCO_X5_get wML_X5_77 wIM_X5_get wSE_X5_X5_get wIN_X5 hdX5_get ⟨Nat.le_of_ble_eq_true rfl, Nat.le_of_ble_eq_true rfl⟩ (recvK hK hW (al20 h 20 (by decide)) (ct20 0) rfl) rfl hl.1 rfl (Nat.le_of_ble_eq_true rfl) dX5_liftAt_3 ⟨Nat.le_of_ble_eq_true rfl, Nat.le_of_ble_eq_true rfl⟩) hS (fun H locs hW hS => ?_)
  refine lv_istore (lv' := [(4, .int z1.1), (0, .ref (h.2.2 20 0)), (1, .int a1), (2, .int a2), (3, .int a3)]) hx hb dX5_liftAt_6 hl (by decide) rfl (fun ls hl => ?_)
  refine lv_iload_n hx hb dX5_liftAt_8 rfl (lv_at hl 2 rfl) ?_
  refine lv_iload_n hx hb dX5_liftAt_9 rfl (lv_at hl 3 rfl) ?_
  obtain ⟨z2, hz2, hF⟩ := bnd hF
  refine inI (runS C0 hlo hK hZ hW hS (kX5_cam l lo g h _ a1 a2  _ _ hz2) wCO_X5_cam wML_X5_103 wST_X5_cam wIN_X5 hdsX5_cam ⟨Nat.le_of_ble_eq_true rfl, Nat.le_of_ble_eq_true rfl⟩ rfl hl.1 rfl (Nat.le_of_ble_eq_true rfl) dX5_liftAt_10 ⟨Nat.le_of_ble_eq_true rfl, Nat.le_of_ble_eq_true rfl⟩) hS (fun H locs hW hS => ?_)
  refine lv_istore (lv' := [(5, .int z2.1), (4, .int z1.1), (0, .ref (h.2.2 20 0)), (1, .int a1), (2, .int a2), (3, .int a3)]) hx hb dX5_liftAt_13 hl (by decide) rfl (fun ls hl => ?_)
  refine lv_iconst (v := 0) hx hb dX5_liftAt_15 (by decide) ?_
  refine lv_istore (lv' := [(6, .int 0), (5, .int z2.1), (4, .int z1.1), (0, .ref (h.2.2 20 0)), (1, .int a1), (2, .int a2), (3, .int a3)]) hx hb dX5_liftAt_16 hl (by decide) rfl (fun ls hl => ?_)
  obtain ⟨z5, hz5, hF⟩ := bnd hF
  refine lX5_liftAt_18 C0 hlo hK hZ a3 z1.1 z2.1  _ 0 _ z5 hz5 _ _ _ hW hS (lv_sub hl [3, 6, 2, 1, 0] rfl) (fun H locs ls hW hS hl => ?_)
  refine lv_iload hx hb dX5_liftAt_53 (lv_at hl 4 rfl) ?_
  refine lv_iload hx hb dX5_liftAt_55 (lv_at hl 2 rfl) ?_
  refine lv_icmp_ne (tgt := 62) hx hb dX5_liftAt_57 (by decide) (fun c6 => ?_) (fun c6 => ?_)
  · rw [if_neg c6] at hF
    refine lv_iconst (v := 1) hx hb dX5_liftAt_62 (by decide) ?_
    refine lv_istore (lv' := [(7, .int 1), (0, .ref (h.2.2 20 0)), (3, .int a3), (4, .int z1.1), (5, .int z2.1), (6, .int z5.1)]) hx hb dX5_liftAt_63 hl (by decide) rfl (fun ls hl => ?_)
    obtain ⟨z8, hz8, hF⟩ := bnd hF
    refine lX5_liftAt_65 C0 hlo hK hZ a3 z1.1 z2.1 z5.1  _ 1 _ z8 hz8 _ _ _ hW hS (lv_sub hl [1, 2, 3, 4, 5, 0] rfl) (fun H locs ls hW hS hl => ?_)
    refine lv_aload_n hx hb dX5_liftAt_90 rfl (lv_at hl 0 rfl) ?_
    refine get20 C0 hK hW 0 (al20 h 20 (by decide)) 9 (by decide) wFL_X5_26 rfl rfl dX5_liftAt_91 ?_
    refine lv_iload hx hb dX5_liftAt_94 (lv_at hl 3 rfl) ?_
    refine lv_iload_n hx hb dX5_liftAt_96 rfl (lv_at hl 1 rfl) ?_
    refine lv_iload hx hb dX5_liftAt_97 (lv_at hl 2 rfl) ?_
    refine lv_iadd hx hb dX5_liftAt_99 ?_
    refine lv_iload hx hb dX5_liftAt_100 (lv_at hl 4 rfl) ?_
    refine lv_isub hx hb dX5_liftAt_102 ?_
    refine lv_iload hx hb dX5_liftAt_103 (lv_at hl 2 rfl) ?_
    obtain ⟨hg, hF⟩ := grd hF
    refine lv_irem hx hb dX5_liftAt_105 hg ?_
    refine lv_iadd hx hb dX5_liftAt_106 ?_
    obtain ⟨hg, hF⟩ := grd hF
    refine ald C0 hK hW 26 0 (al20 h 26 (by decide)) (by decide) hg dX5_liftAt_107 ?_
    refine lv_istore (lv' := [(8, .int (z8.2.1 26 0 (z2.1 + (((a3 + z1.1) - z5.1) - ((a3 + z1.1) - z5.1) / z1.1 * z1.1)).toNatClampNeg)), (0, .ref (h.2.2 20 0)), (3, .int a3), (4, .int z1.1), (5, .int z2.1), (6, .int z5.1), (7, .int z8.1)]) hx hb dX5_liftAt_108 hl (by decide) rfl (fun ls hl => ?_)
    refine lv_aload_n hx hb dX5_liftAt_110 rfl (lv_at hl 1 rfl) ?_
    refine get20 C0 hK hW 0 (al20 h 20 (by decide)) 9 (by decide) wFL_X5_26 rfl rfl dX5_liftAt_111 ?_
    refine lv_iload hx hb dX5_liftAt_114 (lv_at hl 4 rfl) ?_
    refine lv_iload_n hx hb dX5_liftAt_116 rfl (lv_at hl 2 rfl) ?_
    refine lv_iload hx hb dX5_liftAt_117 (lv_at hl 6 rfl) ?_
    refine lv_iadd hx hb dX5_liftAt_119 ?_
    refine lv_iload hx hb dX5_liftAt_120 (lv_at hl 3 rfl) ?_
    obtain ⟨hg, hF⟩ := grd hF
    refine lv_irem hx hb dX5_liftAt_122 hg ?_
    refine lv_iadd hx hb dX5_liftAt_123 ?_
    obtain ⟨hg, hF⟩ := grd hF
    refine ald C0 hK hW 26 0 (al20 h 26 (by decide)) (by decide) hg dX5_liftAt_124 ?_
    refine lv_istore (lv' := [(9, .int (z8.2.1 26 0 (z2.1 + ((a3 + z8.1) - (a3 + z8.1) / z1.1 * z1.1)).toNatClampNeg)), (8, .int (z8.2.1 26 0 (z2.1 + (((a3 + z1.1) - z5.1) - ((a3 + z1.1) - z5.1) / z1.1 * z1.1)).toNatClampNeg)), (0, .ref (h.2.2 20 0)), (3, .int a3), (4, .int z1.1), (5, .int z2.1), (6, .int z5.1), (7, .int z8.1)]) hx hb dX5_liftAt_125 hl (by decide) rfl (fun ls hl => ?_)
    refine lv_iload hx hb dX5_liftAt_127 (lv_at hl 1 rfl) ?_
    refine lv_iload hx hb dX5_liftAt_129 (lv_at hl 0 rfl) ?_
    refine lv_iload hx hb dX5_liftAt_131 (lv_at hl 1 rfl) ?_
    refine lv_isub hx hb dX5_liftAt_133 ?_
    refine lv_iload hx hb dX5_liftAt_134 (lv_at hl 6 rfl) ?_
    refine lv_imul hx hb dX5_liftAt_136 ?_
    refine lv_iload hx hb dX5_liftAt_137 (lv_at hl 6 rfl) ?_
    refine lv_iload hx hb dX5_liftAt_139 (lv_at hl 7 rfl) ?_
    refine lv_iadd hx hb dX5_liftAt_141 ?_
    obtain ⟨z9, hz9, hF⟩ := bnd hF
    refine inI (runS C0 hlo hK hZ hW hS (kJ9_floorDiv_7cf53 l lo g h _ (((z8.2.1 26 0 (z2.1 + ((a3 + z8.1) - (a3 + z8.1) / z1.1 * z1.1)).toNatClampNeg) - (z8.2.1 26 0 (z2.1 + (((a3 + z1.1) - z5.1) - ((a3 + z1.1) - z5.1) / z1.1 * z1.1)).toNatClampNeg)) * z5.1) (z5.1 + z8.1)  _ _ hz9) wCO_J9_floorDiv_7cf53 wML_X5_109 wST_J9_floorDiv_7cf53 wIN_J9 hdsJ9_floorDiv_7cf53 ⟨Nat.le_of_ble_eq_true rfl, Nat.le_of_ble_eq_true rfl⟩ rfl hl.1 rfl (Nat.le_of_ble_eq_true rfl) dX5_liftAt_142 ⟨Nat.le_of_ble_eq_true rfl, Nat.le_of_ble_eq_true rfl⟩) hS (fun H locs hW hS => ?_)
    refine lv_iadd hx hb dX5_liftAt_145 ?_
    cases hF
    exact retI C0 hr hlk hW hS dX5_liftAt_146
  · rw [if_pos c6] at hF
    refine lv_iconst (v := 0) hx hb dX5_liftAt_60 (by decide) ?_
    cases hF
    exact retI C0 hr hlk hW hS dX5_liftAt_61
theorem hdX5_load : yX5_load.cls = RX5 ∧ yX5_load.cls ≠ "java/lang/invoke/MethodHandle" ∧ yX5_load.cls ≠ "java/lang/invoke/VarHandle" ∧ (parseMethodDescriptor yX5_load.desc).map (fun d => d.parameters.length) = some 1 := by decide +kernel
def LX5_load_42 (ns nb : Nat) (v1 : Int32) (v2 : Int32) (v3 : Int32) : Nat → Int32 → Int32 → Sg → Option (Int32 × Sg)
  | 0, _, _, _ => none
  | n + 1, v4, v5, σ => if 3 ≤ v5 then (some (v4, σ)) else ((FX5_get ns nb σ v3 5).bind fun z7 => (FX5_liftAt ns nb z7.2 v3 v5 z7.1).bind fun z8 => LX5_load_42 ns nb v1 v2 v3 n (v4 + z8.1) (v5 + 1) z8.2)
def LX5_load_5 (ns nb : Nat) (v1 : Int32) : Nat → Int32 → Int32 → Sg → Option (Int32 × Sg)
  | 0, _, _, _ => none
  | n + 1, v2, v3, σ => if (σ.1 20 0 3) ≤ v3 then (some (v2, σ)) else ((FX5_get ns nb σ v3 0).bind fun z2 => if z2.1 = v1 then ((FX5_get ns nb z2.2 v3 6).bind fun z4 => if z4.1 = 0 then (LX5_load_5 ns nb v1 n v2 (v3 + 1) z4.2) else ((LX5_load_42 ns nb v1 v2 v3 4100 0 0 z4.2).bind fun z9 => (FX5_get ns nb z9.2 v3 1).bind fun z10 => LX5_load_5 ns nb v1 n (v2 + (z10.1 + (z9.1 / 5))) (v3 + 1) z10.2)) else (LX5_load_5 ns nb v1 n v2 (v3 + 1) z2.2))
def FX5_load (ns nb : Nat) (σ : Sg) (a1 : Int32) : Option (Int32 × Sg) :=
  (LX5_load_5 ns nb a1 4100 10 0 σ).bind fun z11 => some (z11.1, z11.2)
set_option maxHeartbeats 4000000 in
set_option maxRecDepth 100000 in
theorem lX5_load_42 {p : Program} {l : Launch} {e : Env} {s : State} {m : MethodId} {args : Array Value} {below : List Frame} {meth : Method} {c : Code} {Q : State → Prop} {lo : Nat} {g : Gx} {h : Sh} (C0 : CallFix p m c cX5_load 6 s args wB RX5) (hlo : lo ≤ s.heap.size) (hK : KW g s) (hZ : ZW lo s s.heap) (v1 : Int32) (v2 : Int32) (v3 : Int32)  : ∀ (n : Nat) (v4 : Int32) (v5 : Int32) (σ : Sg) (z : (Int32 × Sg)) (hF : LX5_load_42 h.1 h.2.1 v1 v2 v3 n v4 v5 σ = some z) (H : Heap) (locs : List Loc) (ls : Array Slot) (hW : FW g h (Ax lo) σ H) (hS : va_S (Ax lo) s.heap H locs) (hl : lv_has ls 6 [(0, .ref (h.2.2 20 0)), (1, .int v1), (2, .int v2), (3, .int v3), (4, .int v4), (5, .int v5)]) (kk : ∀ (H : Heap) (locs : List Loc) (ls : Array Slot), FW g h (Ax lo) z.2 H → va_S (Ax lo) s.heap H locs → lv_has ls 6 [(0, .ref (h.2.2 20 0)), (1, .int v1), (2, .int v2), (3, .int v3), (4, .int z.1)] → W p l e { frames := 2, cells := 0, slots := 0, locals := 51 } s m args below meth c H locs 0 0 Q (F0 m 72 ls [])), W p l e { frames := 2, cells := 0, slots := 0, locals := 51 } s m args below meth c H locs 0 0 Q (F0 m 42 ls []) := by
  have hx := C0.1
  have hb := C0.2.1
  intro n
  induction n with
  | zero =>
    intro v4 v5 σ z hF
    rw [LX5_load_42] at hF
    cases hF
  | succ n ih =>
    intro v4 v5 σ z hF H locs ls hW hS hl kk
    rw [LX5_load_42] at hF
    refine lv_iload hx hb dX5_load_42 (lv_at hl 5 rfl) ?_
    refine lv_iconst (v := 3) hx hb dX5_load_44 (by decide) ?_
    refine lv_icmp_ge (tgt := 72) hx hb dX5_load_45 (by decide) (fun c6 => ?_) (fun c6 => ?_)
    · rw [if_pos c6] at hF
      cases hF
      exact kk _ _ _ hW hS (lv_sub hl [0, 1, 2, 3, 4] rfl)
    · rw [if_neg c6] at hF
      refine lv_iload hx hb dX5_load_48 (lv_at hl 4 rfl) ?_
      refine lv_aload_n hx hb dX5_load_50 rfl (lv_at hl 0 rfl) ?_
      refine lv_iload_n hx hb dX5_load_51 rfl (lv_at hl 3 rfl) ?_
      refine lv_iload hx hb dX5_load_52 (lv_at hl 5 rfl) ?_
      refine lv_aload_n hx hb dX5_load_54 rfl (lv_at hl 0 rfl) ?_
      refine lv_iload_n hx hb dX5_load_55 rfl (lv_at hl 3 rfl) ?_
      refine lv_iconst (v := 5) hx hb dX5_load_56 (by decide) ?_
      obtain ⟨z7, hz7, hF⟩ := bnd hF
      refine inI (runV C0 hlo hK hZ hW hS (kX5_get l lo g h _ v3 5  _ _ hz7) wCO_X5_get wML_X5_77 wIM_X5_get wSE_X5_X5_get wIN_X5 hdX5_get ⟨Nat.le_of_ble_eq_true rfl, Nat.le_of_ble_eq_true rfl⟩ (recvK hK hW (al20 h 20 (by decide)) (ct20 0) rfl) rfl hl.1 rfl (Nat.le_of_ble_eq_true rfl) dX5_load_57 ⟨Nat.le_of_ble_eq_true rfl, Nat.le_of_ble_eq_true rfl⟩) hS (fun H locs hW hS => ?_)
      obtain ⟨z8, hz8, hF⟩ := bnd hF
      refine inI (runV C0 hlo hK hZ hW hS (kX5_liftAt l lo g h _ v3 v5 z7.1  _ _ hz8) wCO_X5_liftAt wML_X5_80 wIM_X5_liftAt wSE_X5_X5_liftAt wIN_X5 hdX5_liftAt ⟨Nat.le_of_ble_eq_true rfl, Nat.le_of_ble_eq_true rfl⟩ (recvK hK hW (al20 h 20 (by decide)) (ct20 0) rfl) rfl hl.1 rfl (Nat.le_of_ble_eq_true rfl) dX5_load_60 ⟨Nat.le_of_ble_eq_true rfl, Nat.le_of_ble_eq_true rfl⟩) hS (fun H locs hW hS => ?_)
      refine lv_iadd hx hb dX5_load_63 ?_
      refine lv_istore (lv' := [(4, .int (v4 + z8.1)), (0, .ref (h.2.2 20 0)), (1, .int v1), (2, .int v2), (3, .int v3), (5, .int v5)]) hx hb dX5_load_64 hl (by decide) rfl (fun ls hl => ?_)
      refine lv_iinc (v := v5 + 1) (lv' := [(5, .int (v5 + 1)), (4, .int (v4 + z8.1)), (0, .ref (h.2.2 20 0)), (1, .int v1), (2, .int v2), (3, .int v3)]) hx hb dX5_load_66 hl (k := 5) rfl rfl (by decide) rfl (fun ls hl => ?_)
      refine lv_goto (tgt := 42) hx hb dX5_load_69 (by decide) ?_
      exact ih (v4 + z8.1) (v5 + 1) z8.2 z hF _ _ _ hW hS (lv_sub hl [2, 3, 4, 5, 1, 0] rfl) kk
set_option maxHeartbeats 4000000 in
set_option maxRecDepth 100000 in
theorem lX5_load_5 {p : Program} {l : Launch} {e : Env} {s : State} {m : MethodId} {args : Array Value} {below : List Frame} {meth : Method} {c : Code} {Q : State → Prop} {lo : Nat} {g : Gx} {h : Sh} (C0 : CallFix p m c cX5_load 6 s args wB RX5) (hlo : lo ≤ s.heap.size) (hK : KW g s) (hZ : ZW lo s s.heap) (v1 : Int32)  : ∀ (n : Nat) (v2 : Int32) (v3 : Int32) (σ : Sg) (z : (Int32 × Sg)) (hF : LX5_load_5 h.1 h.2.1 v1 n v2 v3 σ = some z) (H : Heap) (locs : List Loc) (ls : Array Slot) (hW : FW g h (Ax lo) σ H) (hS : va_S (Ax lo) s.heap H locs) (hl : lv_has ls 6 [(0, .ref (h.2.2 20 0)), (1, .int v1), (2, .int v2), (3, .int v3)]) (kk : ∀ (H : Heap) (locs : List Loc) (ls : Array Slot), FW g h (Ax lo) z.2 H → va_S (Ax lo) s.heap H locs → lv_has ls 6 [(2, .int z.1)] → W p l e { frames := 2, cells := 0, slots := 0, locals := 51 } s m args below meth c H locs 0 0 Q (F0 m 92 ls [])), W p l e { frames := 2, cells := 0, slots := 0, locals := 51 } s m args below meth c H locs 0 0 Q (F0 m 5 ls []) := by
  have hx := C0.1
  have hb := C0.2.1
  intro n
  induction n with
  | zero =>
    intro v2 v3 σ z hF
    rw [LX5_load_5] at hF
    cases hF
  | succ n ih =>
    intro v2 v3 σ z hF H locs ls hW hS hl kk
    rw [LX5_load_5] at hF
    refine lv_iload_n hx hb dX5_load_5 rfl (lv_at hl 3 rfl) ?_
    refine lv_aload_n hx hb dX5_load_6 rfl (lv_at hl 0 rfl) ?_
    refine get20 C0 hK hW 0 (al20 h 20 (by decide)) 3 (by decide) wFL_X5_49 rfl rfl dX5_load_7 ?_
    refine lv_icmp_ge (tgt := 92) hx hb dX5_load_10 (by decide) (fun c1 => ?_) (fun c1 => ?_)
    · rw [if_pos c1] at hF
      cases hF
      exact kk _ _ _ hW hS (lv_sub hl [2] rfl)
    · rw [if_neg c1] at hF
      refine lv_aload_n hx hb dX5_load_13 rfl (lv_at hl 0 rfl) ?_
      refine lv_iload_n hx hb dX5_load_14 rfl (lv_at hl 3 rfl) ?_
      refine lv_iconst (v := 0) hx hb dX5_load_15 (by decide) ?_
      obtain ⟨z2, hz2, hF⟩ := bnd hF
      refine inI (runV C0 hlo hK hZ hW hS (kX5_get l lo g h _ v3 0  _ _ hz2) wCO_X5_get wML_X5_77 wIM_X5_get wSE_X5_X5_get wIN_X5 hdX5_get ⟨Nat.le_of_ble_eq_true rfl, Nat.le_of_ble_eq_true rfl⟩ (recvK hK hW (al20 h 20 (by decide)) (ct20 0) rfl) rfl hl.1 rfl (Nat.le_of_ble_eq_true rfl) dX5_load_16 ⟨Nat.le_of_ble_eq_true rfl, Nat.le_of_ble_eq_true rfl⟩) hS (fun H locs hW hS => ?_)
      refine lv_iload_n hx hb dX5_load_19 rfl (lv_at hl 1 rfl) ?_
      refine lv_icmp_ne (tgt := 86) hx hb dX5_load_20 (by decide) (fun c3 => ?_) (fun c3 => ?_)
      · rw [if_neg c3] at hF
        refine lv_iinc (v := v3 + 1) (lv' := [(3, .int (v3 + 1)), (0, .ref (h.2.2 20 0)), (1, .int v1), (2, .int v2)]) hx hb dX5_load_86 hl (k := 3) rfl rfl (by decide) rfl (fun ls hl => ?_)
        refine lv_goto (tgt := 5) hx hb dX5_load_89 (by decide) ?_
        exact ih v2 (v3 + 1) z2.2 z hF _ _ _ hW hS (lv_sub hl [1, 2, 3, 0] rfl) kk
      · rw [if_pos c3] at hF
        refine lv_aload_n hx hb dX5_load_23 rfl (lv_at hl 0 rfl) ?_
        refine lv_iload_n hx hb dX5_load_24 rfl (lv_at hl 3 rfl) ?_
        refine lv_bipush (v := 6) hx hb dX5_load_25 (by decide) ?_
        obtain ⟨z4, hz4, hF⟩ := bnd hF
        refine inI (runV C0 hlo hK hZ hW hS (kX5_get l lo g h _ v3 6  _ _ hz4) wCO_X5_get wML_X5_77 wIM_X5_get wSE_X5_X5_get wIN_X5 hdX5_get ⟨Nat.le_of_ble_eq_true rfl, Nat.le_of_ble_eq_true rfl⟩ (recvK hK hW (al20 h 20 (by decide)) (ct20 0) rfl) rfl hl.1 rfl (Nat.le_of_ble_eq_true rfl) dX5_load_27 ⟨Nat.le_of_ble_eq_true rfl, Nat.le_of_ble_eq_true rfl⟩) hS (fun H locs hW hS => ?_)
        refine lv_if_ne (tgt := 36) hx hb dX5_load_30 (by decide) (fun c5 => ?_) (fun c5 => ?_)
        · rw [if_neg c5] at hF
          refine lv_iconst (v := 0) hx hb dX5_load_36 (by decide) ?_
          refine lv_istore (lv' := [(4, .int 0), (0, .ref (h.2.2 20 0)), (1, .int v1), (2, .int v2), (3, .int v3)]) hx hb dX5_load_37 hl (by decide) rfl (fun ls hl => ?_)
          refine lv_iconst (v := 0) hx hb dX5_load_39 (by decide) ?_
          refine lv_istore (lv' := [(5, .int 0), (4, .int 0), (0, .ref (h.2.2 20 0)), (1, .int v1), (2, .int v2), (3, .int v3)]) hx hb dX5_load_40 hl (by decide) rfl (fun ls hl => ?_)
          obtain ⟨z9, hz9, hF⟩ := bnd hF
          refine lX5_load_42 C0 hlo hK hZ v1 v2 v3  _ 0 0 _ z9 hz9 _ _ _ hW hS (lv_sub hl [2, 3, 4, 5, 1, 0] rfl) (fun H locs ls hW hS hl => ?_)
          refine lv_iload_n hx hb dX5_load_72 rfl (lv_at hl 2 rfl) ?_
          refine lv_aload_n hx hb dX5_load_73 rfl (lv_at hl 0 rfl) ?_
          refine lv_iload_n hx hb dX5_load_74 rfl (lv_at hl 3 rfl) ?_
          refine lv_iconst (v := 1) hx hb dX5_load_75 (by decide) ?_
          obtain ⟨z10, hz10, hF⟩ := bnd hF
          refine inI (runV C0 hlo hK hZ hW hS (kX5_get l lo g h _ v3 1  _ _ hz10) wCO_X5_get wML_X5_77 wIM_X5_get wSE_X5_X5_get wIN_X5 hdX5_get ⟨Nat.le_of_ble_eq_true rfl, Nat.le_of_ble_eq_true rfl⟩ (recvK hK hW (al20 h 20 (by decide)) (ct20 0) rfl) rfl hl.1 rfl (Nat.le_of_ble_eq_true rfl) dX5_load_76 ⟨Nat.le_of_ble_eq_true rfl, Nat.le_of_ble_eq_true rfl⟩) hS (fun H locs hW hS => ?_)
          refine lv_iload hx hb dX5_load_79 (lv_at hl 4 rfl) ?_
          refine lv_iconst (v := 5) hx hb dX5_load_81 (by decide) ?_
          refine lv_idiv hx hb dX5_load_82 (by decide) ?_
          refine lv_iadd hx hb dX5_load_83 ?_
          refine lv_iadd hx hb dX5_load_84 ?_
          refine lv_istore_n (lv' := [(2, .int (v2 + (z10.1 + (z9.1 / 5)))), (0, .ref (h.2.2 20 0)), (1, .int v1), (3, .int v3), (4, .int z9.1)]) hx hb dX5_load_85 rfl hl (by decide) rfl (fun ls hl => ?_)
          refine lv_iinc (v := v3 + 1) (lv' := [(3, .int (v3 + 1)), (2, .int (v2 + (z10.1 + (z9.1 / 5)))), (0, .ref (h.2.2 20 0)), (1, .int v1), (4, .int z9.1)]) hx hb dX5_load_86 hl (k := 3) rfl rfl (by decide) rfl (fun ls hl => ?_)
          refine lv_goto (tgt := 5) hx hb dX5_load_89 (by decide) ?_
          exact ih (v2 + (z10.1 + (z9.1 / 5))) (v3 + 1) z10.2 z hF _ _ _ hW hS (lv_sub hl [2, 3, 1, 0] rfl) kk
        · rw [if_pos c5] at hF
          refine lv_goto (tgt := 86) hx hb dX5_load_33 (by decide) ?_
          refine lv_iinc (v := v3 + 1) (lv' := [(3, .int (v3 + 1)), (0, .ref (h.2.2 20 0)), (1, .int v1), (2, .int v2)]) hx hb dX5_load_86 hl (k := 3) rfl rfl (by decide) rfl (fun ls hl => ?_)
          refine lv_goto (tgt := 5) hx hb dX5_load_89 (by decide) ?_
          exact ih v2 (v3 + 1) z4.2 z hF _ _ _ hW hS (lv_sub hl [1, 2, 3, 0] rfl) kk
set_option maxHeartbeats 4000000 in
set_option maxRecDepth 100000 in
theorem kX5_load (l : Launch) (lo : Nat) (g : Gx) (h : Sh) (σ : Sg) (a1 : Int32)  (r : Int32) (σ1 : Sg) (hF : FX5_load h.1 h.2.1 σ a1 = some (r, σ1)) : MI l yX5_load (ws_ yX5_load cX5_load 6 (some .int)) 2 51 0 0 lo g h [.ref (h.2.2 20 0), .int a1] σ r σ1 := by
  refine ofB (own := RX5) (by decide +kernel) rfl (fun p e s m below meth c C0 hr hlk hlo hK hZ hW hS ls hl => ?_) (Nat.le_of_ble_eq_true rfl)
  have hx := C0.1
  have hb := C0.2.1
  have hl : lv_has ls 6 [(0, .ref (h.2.2 20 0)), (1, .int a1)] := hl
  unfold FX5_load at hF
  refine lv_bipush (v := 10) hx hb dX5_load_0 (by decide) ?_
  refine lv_istore_n (lv' := [(2, .int 10), (0, .ref (h.2.2 20 0)), (1, .int a1)]) hx hb dX5_load_2 rfl hl (by decide) rfl (fun ls hl => ?_)
  refine lv_iconst (v := 0) hx hb dX5_load_3 (by decide) ?_
  refine lv_istore_n (lv' := [(3, .int 0), (2, .int 10), (0, .ref (h.2.2 20 0)), (1, .int a1)]) hx hb dX5_load_4 rfl hl (by decide) rfl (fun ls hl => ?_)
  obtain ⟨z11, hz11, hF⟩ := bnd hF
  refine lX5_load_5 C0 hlo hK hZ a1  _ 10 0 _ z11 hz11 _ _ _ hW hS (lv_sub hl [2, 3, 1, 0] rfl) (fun H locs ls hW hS hl => ?_)
  refine lv_iload_n hx hb dX5_load_92 rfl (lv_at hl 0 rfl) ?_
  cases hF
  exact retI C0 hr hlk hW hS dX5_load_93
theorem hdX5_springTold : yX5_springTold.cls = RX5 ∧ yX5_springTold.cls ≠ "java/lang/invoke/MethodHandle" ∧ yX5_springTold.cls ≠ "java/lang/invoke/VarHandle" ∧ (parseMethodDescriptor yX5_springTold.desc).map (fun d => d.parameters.length) = some 2 := by decide +kernel
def LX5_springTold_29 (ns nb : Nat) (v1 : Int32) : Nat → Int32 → Int32 → Sg → Option (Int32 × Sg)
  | 0, _, _, _ => none
  | n + 1, v3, v4, σ => if (σ.1 20 0 3) ≤ v4 then (some (v3, σ)) else ((FX5_get ns nb σ v4 0).bind fun z4 => if z4.1 = v1 then ((FX5_get ns nb z4.2 v4 6).bind fun z6 => LX5_springTold_29 ns nb v1 n (v3 + z6.1) (v4 + 1) z6.2) else (LX5_springTold_29 ns nb v1 n (v3 + 0) (v4 + 1) z4.2))
def FX5_springTold (ns nb : Nat) (σ : Sg) (a1 : Int32) (a2 : Int32) : Option (Int32 × Sg) :=
  if 5 ≤ a2 then (if a2 = 6 then ((FX5_load ns nb σ a1).bind fun z8 => some (z8.1, z8.2)) else ((LX5_springTold_29 ns nb a1 4100 0 0 σ).bind fun z7 => some (z7.1, z7.2))) else ((FX5_sp ns nb σ a1 a2).bind fun z9 => some (z9.1, z9.2))
set_option maxHeartbeats 4000000 in
set_option maxRecDepth 100000 in
theorem lX5_springTold_29 {p : Program} {l : Launch} {e : Env} {s : State} {m : MethodId} {args : Array Value} {below : List Frame} {meth : Method} {c : Code} {Q : State → Prop} {lo : Nat} {g : Gx} {h : Sh} (C0 : CallFix p m c cX5_springTold 5 s args wB RX5) (hlo : lo ≤ s.heap.size) (hK : KW g s) (hZ : ZW lo s s.heap) (v1 : Int32)  : ∀ (n : Nat) (v3 : Int32) (v4 : Int32) (σ : Sg) (z : (Int32 × Sg)) (hF : LX5_springTold_29 h.1 h.2.1 v1 n v3 v4 σ = some z) (H : Heap) (locs : List Loc) (ls : Array Slot) (hW : FW g h (Ax lo) σ H) (hS : va_S (Ax lo) s.heap H locs) (hl : lv_has ls 5 [(0, .ref (h.2.2 20 0)), (1, .int v1), (3, .int v3), (4, .int v4)]) (kk : ∀ (H : Heap) (locs : List Loc) (ls : Array Slot), FW g h (Ax lo) z.2 H → va_S (Ax lo) s.heap H locs → lv_has ls 5 [(3, .int z.1)] → W p l e { frames := 3, cells := 0, slots := 0, locals := 76 } s m args below meth c H locs 0 0 Q (F0 m 70 ls [])), W p l e { frames := 3, cells := 0, slots := 0, locals := 76 } s m args below meth c H locs 0 0 Q (F0 m 29 ls []) := by
  have hx := C0.1
  have hb := C0.2.1
  intro n
  induction n with
  | zero =>
    intro v3 v4 σ z hF
    rw [LX5_springTold_29] at hF
    cases hF
  | succ n ih =>
    intro v3 v4 σ z hF H locs ls hW hS hl kk
    rw [LX5_springTold_29] at hF
    refine lv_iload hx hb dX5_springTold_29 (lv_at hl 3 rfl) ?_
    refine lv_aload_n hx hb dX5_springTold_31 rfl (lv_at hl 0 rfl) ?_
    refine get20 C0 hK hW 0 (al20 h 20 (by decide)) 3 (by decide) wFL_X5_49 rfl rfl dX5_springTold_32 ?_
    refine lv_icmp_ge (tgt := 70) hx hb dX5_springTold_35 (by decide) (fun c3 => ?_) (fun c3 => ?_)
    · rw [if_pos c3] at hF
      cases hF
      exact kk _ _ _ hW hS (lv_sub hl [2] rfl)
    · rw [if_neg c3] at hF
      refine lv_iload_n hx hb dX5_springTold_38 rfl (lv_at hl 2 rfl) ?_
      refine lv_aload_n hx hb dX5_springTold_39 rfl (lv_at hl 0 rfl) ?_
      refine lv_iload hx hb dX5_springTold_40 (lv_at hl 3 rfl) ?_
      refine lv_iconst (v := 0) hx hb dX5_springTold_42 (by decide) ?_
      obtain ⟨z4, hz4, hF⟩ := bnd hF
      refine inI (runV C0 hlo hK hZ hW hS (kX5_get l lo g h _ v4 0  _ _ hz4) wCO_X5_get wML_X5_77 wIM_X5_get wSE_X5_X5_get wIN_X5 hdX5_get ⟨Nat.le_of_ble_eq_true rfl, Nat.le_of_ble_eq_true rfl⟩ (recvK hK hW (al20 h 20 (by decide)) (ct20 0) rfl) rfl hl.1 rfl (Nat.le_of_ble_eq_true rfl) dX5_springTold_43 ⟨Nat.le_of_ble_eq_true rfl, Nat.le_of_ble_eq_true rfl⟩) hS (fun H locs hW hS => ?_)
      refine lv_iload_n hx hb dX5_springTold_46 rfl (lv_at hl 1 rfl) ?_
      refine lv_icmp_ne (tgt := 61) hx hb dX5_springTold_47 (by decide) (fun c5 => ?_) (fun c5 => ?_)
      · rw [if_neg c5] at hF
        refine lv_iconst (v := 0) hx hb dX5_springTold_61 (by decide) ?_
        refine lv_iadd hx hb dX5_springTold_62 ?_
        refine lv_istore_n (lv' := [(3, .int (v3 + 0)), (0, .ref (h.2.2 20 0)), (1, .int v1), (4, .int v4)]) hx hb dX5_springTold_63 rfl hl (by decide) rfl (fun ls hl => ?_)
        refine lv_iinc (v := v4 + 1) (lv' := [(4, .int (v4 + 1)), (3, .int (v3 + 0)), (0, .ref (h.2.2 20 0)), (1, .int v1)]) hx hb dX5_springTold_64 hl (k := 3) rfl rfl (by decide) rfl (fun ls hl => ?_)
        refine lv_goto (tgt := 29) hx hb dX5_springTold_67 (by decide) ?_
        exact ih (v3 + 0) (v4 + 1) z4.2 z hF _ _ _ hW hS (lv_sub hl [2, 3, 1, 0] rfl) kk
      · rw [if_pos c5] at hF
        refine lv_aload_n hx hb dX5_springTold_50 rfl (lv_at hl 0 rfl) ?_
        refine lv_iload hx hb dX5_springTold_51 (lv_at hl 3 rfl) ?_
        refine lv_bipush (v := 6) hx hb dX5_springTold_53 (by decide) ?_
        obtain ⟨z6, hz6, hF⟩ := bnd hF
        refine inI (runV C0 hlo hK hZ hW hS (kX5_get l lo g h _ v4 6  _ _ hz6) wCO_X5_get wML_X5_77 wIM_X5_get wSE_X5_X5_get wIN_X5 hdX5_get ⟨Nat.le_of_ble_eq_true rfl, Nat.le_of_ble_eq_true rfl⟩ (recvK hK hW (al20 h 20 (by decide)) (ct20 0) rfl) rfl hl.1 rfl (Nat.le_of_ble_eq_true rfl) dX5_springTold_55 ⟨Nat.le_of_ble_eq_true rfl, Nat.le_of_ble_eq_true rfl⟩) hS (fun H locs hW hS => ?_)
        refine lv_goto (tgt := 62) hx hb dX5_springTold_58 (by decide) ?_
        refine lv_iadd hx hb dX5_springTold_62 ?_
        refine lv_istore_n (lv' := [(3, .int (v3 + z6.1)), (0, .ref (h.2.2 20 0)), (1, .int v1), (4, .int v4)]) hx hb dX5_springTold_63 rfl hl (by decide) rfl (fun ls hl => ?_)
        refine lv_iinc (v := v4 + 1) (lv' := [(4, .int (v4 + 1)), (3, .int (v3 + z6.1)), (0, .ref (h.2.2 20 0)), (1, .int v1)]) hx hb dX5_springTold_64 hl (k := 3) rfl rfl (by decide) rfl (fun ls hl => ?_)
        refine lv_goto (tgt := 29) hx hb dX5_springTold_67 (by decide) ?_
        exact ih (v3 + z6.1) (v4 + 1) z6.2 z hF _ _ _ hW hS (lv_sub hl [2, 3, 1, 0] rfl) kk
set_option maxHeartbeats 4000000 in
set_option maxRecDepth 100000 in
theorem kX5_springTold (l : Launch) (lo : Nat) (g : Gx) (h : Sh) (σ : Sg) (a1 : Int32) (a2 : Int32)  (r : Int32) (σ1 : Sg) (hF : FX5_springTold h.1 h.2.1 σ a1 a2 = some (r, σ1)) : MI l yX5_springTold (ws_ yX5_springTold cX5_springTold 5 (some .int)) 3 76 0 0 lo g h [.ref (h.2.2 20 0), .int a1, .int a2] σ r σ1 := by
  refine ofB (own := RX5) (by decide +kernel) rfl (fun p e s m below meth c C0 hr hlk hlo hK hZ hW hS ls hl => ?_) (Nat.le_of_ble_eq_true rfl)
  have hx := C0.1
  have hb := C0.2.1
  have hl : lv_has ls 5 [(0, .ref (h.2.2 20 0)), (1, .int a1), (2, .int a2)] := hl
  unfold FX5_springTold at hF
  refine lv_iload_n hx hb dX5_springTold_0 rfl (lv_at hl 2 rfl) ?_
  refine lv_iconst (v := 5) hx hb dX5_springTold_1 (by decide) ?_
  refine lv_icmp_ge (tgt := 12) hx hb dX5_springTold_2 (by decide) (fun c1 => ?_) (fun c1 => ?_)
  · rw [if_pos c1] at hF
    refine lv_iload_n hx hb dX5_springTold_12 rfl (lv_at hl 2 rfl) ?_
    refine lv_bipush (v := 6) hx hb dX5_springTold_13 (by decide) ?_
    refine lv_icmp_ne (tgt := 24) hx hb dX5_springTold_15 (by decide) (fun c2 => ?_) (fun c2 => ?_)
    · rw [if_neg c2] at hF
      refine lv_iconst (v := 0) hx hb dX5_springTold_24 (by decide) ?_
      refine lv_istore_n (lv' := [(3, .int 0), (0, .ref (h.2.2 20 0)), (1, .int a1), (2, .int a2)]) hx hb dX5_springTold_25 rfl hl (by decide) rfl (fun ls hl => ?_)
      refine lv_iconst (v := 0) hx hb dX5_springTold_26 (by decide) ?_
      refine lv_istore (lv' := [(4, .int 0), (3, .int 0), (0, .ref (h.2.2 20 0)), (1, .int a1), (2, .int a2)]) hx hb dX5_springTold_27 hl (by decide) rfl (fun ls hl => ?_)
      obtain ⟨z7, hz7, hF⟩ := bnd hF
      refine lX5_springTold_29 C0 hlo hK hZ a1  _ 0 0 _ z7 hz7 _ _ _ hW hS (lv_sub hl [2, 3, 1, 0] rfl) (fun H locs ls hW hS hl => ?_)
      refine lv_iload_n hx hb dX5_springTold_70 rfl (lv_at hl 0 rfl) ?_
      cases hF
      exact retI C0 hr hlk hW hS dX5_springTold_71
    · rw [if_pos c2] at hF
      refine lv_aload_n hx hb dX5_springTold_18 rfl (lv_at hl 0 rfl) ?_
      refine lv_iload_n hx hb dX5_springTold_19 rfl (lv_at hl 1 rfl) ?_
      obtain ⟨z8, hz8, hF⟩ := bnd hF
      refine inI (runV C0 hlo hK hZ hW hS (kX5_load l lo g h _ a1  _ _ hz8) wCO_X5_load wML_X5_84 wIM_X5_load wSE_X5_X5_load wIN_X5 hdX5_load ⟨Nat.le_of_ble_eq_true rfl, Nat.le_of_ble_eq_true rfl⟩ (recvK hK hW (al20 h 20 (by decide)) (ct20 0) rfl) rfl hl.1 rfl (Nat.le_of_ble_eq_true rfl) dX5_springTold_20 ⟨Nat.le_of_ble_eq_true rfl, Nat.le_of_ble_eq_true rfl⟩) hS (fun H locs hW hS => ?_)
      cases hF
      exact retI C0 hr hlk hW hS dX5_springTold_23
  · rw [if_neg c1] at hF
    refine lv_aload_n hx hb dX5_springTold_5 rfl (lv_at hl 0 rfl) ?_
    refine lv_iload_n hx hb dX5_springTold_6 rfl (lv_at hl 1 rfl) ?_
    refine lv_iload_n hx hb dX5_springTold_7 rfl (lv_at hl 2 rfl) ?_
    obtain ⟨z9, hz9, hF⟩ := bnd hF
    refine inI (runV C0 hlo hK hZ hW hS (kX5_sp l lo g h _ a1 a2  _ _ hz9) wCO_X5_sp wML_X5_67 wIM_X5_sp wSE_X5_X5_sp wIN_X5 hdX5_sp ⟨Nat.le_of_ble_eq_true rfl, Nat.le_of_ble_eq_true rfl⟩ (recvK hK hW (al20 h 20 (by decide)) (ct20 0) rfl) rfl hl.1 rfl (Nat.le_of_ble_eq_true rfl) dX5_springTold_8 ⟨Nat.le_of_ble_eq_true rfl, Nat.le_of_ble_eq_true rfl⟩) hS (fun H locs hW hS => ?_)
    cases hF
    exact retI C0 hr hlk hW hS dX5_springTold_11
theorem hdX5_spring : yX5_spring.cls = RX5 ∧ yX5_spring.cls ≠ "java/lang/invoke/MethodHandle" ∧ yX5_spring.cls ≠ "java/lang/invoke/VarHandle" ∧ (parseMethodDescriptor yX5_spring.desc).map (fun d => d.parameters.length) = some 2 := by decide +kernel
def FX5_spring (ns nb : Nat) (σ : Sg) (a1 : Int32) (a2 : Int32) : Option (Int32 × Sg) :=
  (FX5_isSpring ns nb (sI σ 20 0 0 0) a1).bind fun z1 => if z1.1 = 0 then ((FX5_fail ns nb z1.2 1).bind fun z3 => some (z3.1, z3.2)) else ((FX5_isIn ns nb z1.2 a2 0 6).bind fun z4 => if z4.1 = 0 then ((FX5_fail ns nb z4.2 1).bind fun z6 => some (z6.1, z6.2)) else ((FX5_springTold ns nb z4.2 a1 a2).bind fun z7 => some (z7.1, z7.2)))
set_option maxHeartbeats 4000000 in
set_option maxRecDepth 100000 in
theorem kX5_spring (l : Launch) (lo : Nat) (g : Gx) (h : Sh) (σ : Sg) (a1 : Int32) (a2 : Int32)  (r : Int32) (σ1 : Sg) (hF : FX5_spring h.1 h.2.1 σ a1 a2 = some (r, σ1)) : MI l yX5_spring (ws_ yX5_spring cX5_spring 3 (some .int)) 4 100 0 0 lo g h [.ref (h.2.2 20 0), .int a1, .int a2] σ r σ1 := by
  refine ofB (own := RX5) (by decide +kernel) rfl (fun p e s m below meth c C0 hr hlk hlo hK hZ hW hS ls hl => ?_) (Nat.le_of_ble_eq_true rfl)
  have hx := C0.1
  have hb := C0.2.1
  have hl : lv_has ls 3 [(0, .ref (h.2.2 20 0)), (1, .int a1), (2, .int a2)] := hl
  unfold FX5_spring at hF
  refine lv_aload_n hx hb dX5_spring_0 rfl (lv_at hl 0 rfl) ?_
  refine lv_iconst (v := 0) hx hb dX5_spring_1 (by decide) ?_
  refine put20_0 C0 hK hW hS 0 (al20 h 20 (by decide)) wFL_X5_38 dX5_spring_2 (fun H locs hW hS => ?_)
  refine lv_aload_n hx hb dX5_spring_5 rfl (lv_at hl 0 rfl) ?_
  refine lv_iload_n hx hb dX5_spring_6 rfl (lv_at hl 1 rfl) ?_
  obtain ⟨z1, hz1, hF⟩ := bnd hF
  refine inI (runV C0 hlo hK hZ hW hS (kX5_isSpring l lo g h _ a1  _ _ hz1) wCO_X5_isSpring wML_X5_56 wIM_X5_isSpring wSE_X5_X5_isSpring wIN_X5 hdX5_isSpring ⟨Nat.le_of_ble_eq_true rfl, Nat.le_of_ble_eq_true rfl⟩ (recvK hK hW (al20 h 20 (by decide)) (ct20 0) rfl) rfl hl.1 rfl (Nat.le_of_ble_eq_true rfl) dX5_spring_7 ⟨Nat.le_of_ble_eq_true rfl, Nat.le_of_ble_eq_true rfl⟩) hS (fun H locs hW hS => ?_)
  refine lv_if_eq (tgt := 32) hx hb dX5_spring_10 (by decide) (fun c2 => ?_) (fun c2 => ?_)
  · rw [if_pos c2] at hF
    refine lv_aload_n hx hb dX5_spring_32 rfl (lv_at hl 0 rfl) ?_
    refine lv_iconst (v := 1) hx hb dX5_spring_33 (by decide) ?_
    obtain ⟨z3, hz3, hF⟩ := bnd hF
    refine inI (runV C0 hlo hK hZ hW hS (kX5_fail l lo g h _ 1  _ _ hz3) wCO_X5_fail wML_X5_52 wIM_X5_fail wSE_X5_X5_fail wIN_X5 hdX5_fail ⟨Nat.le_of_ble_eq_true rfl, Nat.le_of_ble_eq_true rfl⟩ (recvK hK hW (al20 h 20 (by decide)) (ct20 0) rfl) rfl hl.1 rfl (Nat.le_of_ble_eq_true rfl) dX5_spring_34 ⟨Nat.le_of_ble_eq_true rfl, Nat.le_of_ble_eq_true rfl⟩) hS (fun H locs hW hS => ?_)
    cases hF
    exact retI C0 hr hlk hW hS dX5_spring_37
  · rw [if_neg c2] at hF
    refine lv_iload_n hx hb dX5_spring_13 rfl (lv_at hl 2 rfl) ?_
    refine lv_iconst (v := 0) hx hb dX5_spring_14 (by decide) ?_
    refine lv_bipush (v := 6) hx hb dX5_spring_15 (by decide) ?_
    obtain ⟨z4, hz4, hF⟩ := bnd hF
    refine inI (runS C0 hlo hK hZ hW hS (kX5_isIn l lo g h _ a2 0 6  _ _ hz4) wCO_X5_isIn wML_X5_45 wST_X5_isIn wIN_X5 hdsX5_isIn ⟨Nat.le_of_ble_eq_true rfl, Nat.le_of_ble_eq_true rfl⟩ rfl hl.1 rfl (Nat.le_of_ble_eq_true rfl) dX5_spring_17 ⟨Nat.le_of_ble_eq_true rfl, Nat.le_of_ble_eq_true rfl⟩) hS (fun H locs hW hS => ?_)
    refine lv_if_eq (tgt := 32) hx hb dX5_spring_20 (by decide) (fun c5 => ?_) (fun c5 => ?_)
    · rw [if_pos c5] at hF
      refine lv_aload_n hx hb dX5_spring_32 rfl (lv_at hl 0 rfl) ?_
      refine lv_iconst (v := 1) hx hb dX5_spring_33 (by decide) ?_
      obtain ⟨z6, hz6, hF⟩ := bnd hF
      refine inI (runV C0 hlo hK hZ hW hS (kX5_fail l lo g h _ 1  _ _ hz6) wCO_X5_fail wML_X5_52 wIM_X5_fail wSE_X5_X5_fail wIN_X5 hdX5_fail ⟨Nat.le_of_ble_eq_true rfl, Nat.le_of_ble_eq_true rfl⟩ (recvK hK hW (al20 h 20 (by decide)) (ct20 0) rfl) rfl hl.1 rfl (Nat.le_of_ble_eq_true rfl) dX5_spring_34 ⟨Nat.le_of_ble_eq_true rfl, Nat.le_of_ble_eq_true rfl⟩) hS (fun H locs hW hS => ?_)
      cases hF
      exact retI C0 hr hlk hW hS dX5_spring_37
    · rw [if_neg c5] at hF
      refine lv_aload_n hx hb dX5_spring_23 rfl (lv_at hl 0 rfl) ?_
      refine lv_iload_n hx hb dX5_spring_24 rfl (lv_at hl 1 rfl) ?_
      refine lv_iload_n hx hb dX5_spring_25 rfl (lv_at hl 2 rfl) ?_
      obtain ⟨z7, hz7, hF⟩ := bnd hF
      refine inI (runV C0 hlo hK hZ hW hS (kX5_springTold l lo g h _ a1 a2  _ _ hz7) wCO_X5_springTold wML_X5_87 wIM_X5_springTold wSE_X5_X5_springTold wIN_X5 hdX5_springTold ⟨Nat.le_of_ble_eq_true rfl, Nat.le_of_ble_eq_true rfl⟩ (recvK hK hW (al20 h 20 (by decide)) (ct20 0) rfl) rfl hl.1 rfl (Nat.le_of_ble_eq_true rfl) dX5_spring_26 ⟨Nat.le_of_ble_eq_true rfl, Nat.le_of_ble_eq_true rfl⟩) hS (fun H locs hW hS => ?_)
      refine lv_goto (tgt := 37) hx hb dX5_spring_29 (by decide) ?_
      cases hF
      exact retI C0 hr hlk hW hS dX5_spring_37
theorem hdX5_engage : yX5_engage.cls = RX5 ∧ yX5_engage.cls ≠ "java/lang/invoke/MethodHandle" ∧ yX5_engage.cls ≠ "java/lang/invoke/VarHandle" ∧ (parseMethodDescriptor yX5_engage.desc).map (fun d => d.parameters.length) = some 2 := by decide +kernel
def FX5_engage (ns nb : Nat) (σ : Sg) (a1 : Int32) (a2 : Int32) : Option (Int32 × Sg) :=
  (FX5_isBird ns nb σ a1).bind fun z1 => if z1.1 = 0 then (if ((sI z1.2 20 0 0 1).1 20 0 0) = 0 then ((FX5_get ns nb (sI z1.2 20 0 0 1) a1 6).bind fun z4 => if z4.1 = 1 then (if 1 = a2 then (some (1, z4.2)) else (if a2 = 0 then ((FX5_set ns nb z4.2 a1 6 0).bind fun z24 => if a2 = 0 then (some (1, z24)) else ((FX5_set ns nb z24 a1 5 0).bind fun z26 => (FX5_set ns nb z26 a1 8 0).bind fun z27 => (FX5_get ns nb z27 a1 0).bind fun z28 => (FX5_sp ns nb z28.2 z28.1 2).bind fun z29 => (FX5_set ns nb z29.2 a1 10 z29.1).bind fun z30 => some (0, z30))) else ((FX5_set ns nb z4.2 a1 6 1).bind fun z31 => if a2 = 0 then (some (1, z31)) else ((FX5_set ns nb z31 a1 5 0).bind fun z33 => (FX5_set ns nb z33 a1 8 0).bind fun z34 => (FX5_get ns nb z34 a1 0).bind fun z35 => (FX5_sp ns nb z35.2 z35.1 2).bind fun z36 => (FX5_set ns nb z36.2 a1 10 z36.1).bind fun z37 => some (0, z37))))) else (if 0 = a2 then (some (0, z4.2)) else (if a2 = 0 then ((FX5_set ns nb z4.2 a1 6 0).bind fun z8 => if a2 = 0 then (some (1, z8)) else ((FX5_set ns nb z8 a1 5 0).bind fun z10 => (FX5_set ns nb z10 a1 8 0).bind fun z11 => (FX5_get ns nb z11 a1 0).bind fun z12 => (FX5_sp ns nb z12.2 z12.1 2).bind fun z13 => (FX5_set ns nb z13.2 a1 10 z13.1).bind fun z14 => some (0, z14))) else ((FX5_set ns nb z4.2 a1 6 1).bind fun z15 => if a2 = 0 then (some (1, z15)) else ((FX5_set ns nb z15 a1 5 0).bind fun z17 => (FX5_set ns nb z17 a1 8 0).bind fun z18 => (FX5_get ns nb z18 a1 0).bind fun z19 => (FX5_sp ns nb z19.2 z19.1 2).bind fun z20 => (FX5_set ns nb z20.2 a1 10 z20.1).bind fun z21 => some (0, z21)))))) else (some (0, (sI z1.2 20 0 0 1)))) else (if ((sI z1.2 20 0 0 0).1 20 0 0) = 0 then ((FX5_get ns nb (sI z1.2 20 0 0 0) a1 6).bind fun z39 => if z39.1 = 1 then (if 1 = a2 then (some (1, z39.2)) else (if a2 = 0 then ((FX5_set ns nb z39.2 a1 6 0).bind fun z59 => if a2 = 0 then (some (1, z59)) else ((FX5_set ns nb z59 a1 5 0).bind fun z61 => (FX5_set ns nb z61 a1 8 0).bind fun z62 => (FX5_get ns nb z62 a1 0).bind fun z63 => (FX5_sp ns nb z63.2 z63.1 2).bind fun z64 => (FX5_set ns nb z64.2 a1 10 z64.1).bind fun z65 => some (0, z65))) else ((FX5_set ns nb z39.2 a1 6 1).bind fun z66 => if a2 = 0 then (some (1, z66)) else ((FX5_set ns nb z66 a1 5 0).bind fun z68 => (FX5_set ns nb z68 a1 8 0).bind fun z69 => (FX5_get ns nb z69 a1 0).bind fun z70 => (FX5_sp ns nb z70.2 z70.1 2).bind fun z71 => (FX5_set ns nb z71.2 a1 10 z71.1).bind fun z72 => some (0, z72))))) else (if 0 = a2 then (some (0, z39.2)) else (if a2 = 0 then ((FX5_set ns nb z39.2 a1 6 0).bind fun z43 => if a2 = 0 then (some (1, z43)) else ((FX5_set ns nb z43 a1 5 0).bind fun z45 => (FX5_set ns nb z45 a1 8 0).bind fun z46 => (FX5_get ns nb z46 a1 0).bind fun z47 => (FX5_sp ns nb z47.2 z47.1 2).bind fun z48 => (FX5_set ns nb z48.2 a1 10 z48.1).bind fun z49 => some (0, z49))) else ((FX5_set ns nb z39.2 a1 6 1).bind fun z50 => if a2 = 0 then (some (1, z50)) else ((FX5_set ns nb z50 a1 5 0).bind fun z52 => (FX5_set ns nb z52 a1 8 0).bind fun z53 => (FX5_get ns nb z53 a1 0).bind fun z54 => (FX5_sp ns nb z54.2 z54.1 2).bind fun z55 => (FX5_set ns nb z55.2 a1 10 z55.1).bind fun z56 => some (0, z56)))))) else (some (0, (sI z1.2 20 0 0 0))))
set_option maxHeartbeats 4000000 in
set_option maxRecDepth 100000 in
theorem kX5_engage (l : Launch) (lo : Nat) (g : Gx) (h : Sh) (σ : Sg) (a1 : Int32) (a2 : Int32)  (r : Int32) (σ1 : Sg) (hF : FX5_engage h.1 h.2.1 σ a1 a2 = some (r, σ1)) : MI l yX5_engage (ws_ yX5_engage cX5_engage 4 (some .boolean)) 2 43 0 0 lo g h [.ref (h.2.2 20 0), .int a1, .int a2] σ r σ1 := by
  refine ofB (own := RX5) (by decide +kernel) rfl (fun p e s m below meth c C0 hr hlk hlo hK hZ hW hS ls hl => ?_) (Nat.le_of_ble_eq_true rfl)
  have hx := C0.1
  have hb := C0.2.1
  have hl : lv_has ls 4 [(0, .ref (h.2.2 20 0)), (1, .int a1), (2, .int a2)] := hl
  unfold FX5_engage at hF
  refine lv_aload_n hx hb dX5_engage_0 rfl (lv_at hl 0 rfl) ?_
  refine lv_aload_n hx hb dX5_engage_1 rfl (lv_at hl 0 rfl) ?_
  refine lv_iload_n hx hb dX5_engage_2 rfl (lv_at hl 1 rfl) ?_
  obtain ⟨z1, hz1, hF⟩ := bnd hF
  refine inI (runV C0 hlo hK hZ hW hS (kX5_isBird l lo g h _ a1  _ _ hz1) wCO_X5_isBird wML_X5_96 wIM_X5_isBird wSE_X5_X5_isBird wIN_X5 hdX5_isBird ⟨Nat.le_of_ble_eq_true rfl, Nat.le_of_ble_eq_true rfl⟩ (recvK hK hW (al20 h 20 (by decide)) (ct20 0) rfl) rfl hl.1 rfl (Nat.le_of_ble_eq_true rfl) dX5_engage_3 ⟨Nat.le_of_ble_eq_true rfl, Nat.le_of_ble_eq_true rfl⟩) hS (fun H locs hW hS => ?_)
  refine lv_if_eq (tgt := 13) hx hb dX5_engage_6 (by decide) (fun c2 => ?_) (fun c2 => ?_)
  · rw [if_pos c2] at hF
    refine lv_iconst (v := 1) hx hb dX5_engage_13 (by decide) ?_
    refine put20_0 C0 hK hW hS 0 (al20 h 20 (by decide)) wFL_X5_38 dX5_engage_14 (fun H locs hW hS => ?_)
    refine lv_aload_n hx hb dX5_engage_17 rfl (lv_at hl 0 rfl) ?_
    refine get20 C0 hK hW 0 (al20 h 20 (by decide)) 0 (by decide) wFL_X5_38 rfl rfl dX5_engage_18 ?_
    refine lv_if_eq (tgt := 26) hx hb dX5_engage_21 (by decide) (fun c3 => ?_) (fun c3 => ?_)
    · rw [if_pos c3] at hF
      refine lv_aload_n hx hb dX5_engage_26 rfl (lv_at hl 0 rfl) ?_
      refine lv_iload_n hx hb dX5_engage_27 rfl (lv_at hl 1 rfl) ?_
      refine lv_bipush (v := 6) hx hb dX5_engage_28 (by decide) ?_
      obtain ⟨z4, hz4, hF⟩ := bnd hF
      refine inI (runV C0 hlo hK hZ hW hS (kX5_get l lo g h _ a1 6  _ _ hz4) wCO_X5_get wML_X5_77 wIM_X5_get wSE_X5_X5_get wIN_X5 hdX5_get ⟨Nat.le_of_ble_eq_true rfl, Nat.le_of_ble_eq_true rfl⟩ (recvK hK hW (al20 h 20 (by decide)) (ct20 0) rfl) rfl hl.1 rfl (Nat.le_of_ble_eq_true rfl) dX5_engage_30 ⟨Nat.le_of_ble_eq_true rfl, Nat.le_of_ble_eq_true rfl⟩) hS (fun H locs hW hS => ?_)
      refine lv_iconst (v := 1) hx hb dX5_engage_33 (by decide) ?_
      refine lv_icmp_ne (tgt := 41) hx hb dX5_engage_34 (by decide) (fun c5 => ?_) (fun c5 => ?_)
      · rw [if_neg c5] at hF
        refine lv_iconst (v := 0) hx hb dX5_engage_41 (by decide) ?_
        refine lv_istore_n (lv' := [(3, .int 0), (0, .ref (h.2.2 20 0)), (1, .int a1), (2, .int a2)]) hx hb dX5_engage_42 rfl hl (by decide) rfl (fun ls hl => ?_)
        refine lv_iload_n hx hb dX5_engage_43 rfl (lv_at hl 0 rfl) ?_
        refine lv_iload_n hx hb dX5_engage_44 rfl (lv_at hl 3 rfl) ?_
        refine lv_icmp_ne (tgt := 50) hx hb dX5_engage_45 (by decide) (fun c6 => ?_) (fun c6 => ?_)
        · rw [if_neg c6] at hF
          refine lv_aload_n hx hb dX5_engage_50 rfl (lv_at hl 1 rfl) ?_
          refine lv_iload_n hx hb dX5_engage_51 rfl (lv_at hl 2 rfl) ?_
          refine lv_bipush (v := 6) hx hb dX5_engage_52 (by decide) ?_
          refine lv_iload_n hx hb dX5_engage_54 rfl (lv_at hl 3 rfl) ?_
          refine lv_if_eq (tgt := 62) hx hb dX5_engage_55 (by decide) (fun c7 => ?_) (fun c7 => ?_)
          · rw [if_pos c7] at hF
            refine lv_iconst (v := 0) hx hb dX5_engage_62 (by decide) ?_
            obtain ⟨z8, hz8, hF⟩ := bnd hF
            refine inV (runV C0 hlo hK hZ hW hS (kX5_set l lo g h _ a1 6 0  _ hz8) wCO_X5_set wML_X5_99 wIM_X5_set wSE_X5_X5_set wIN_X5 hdX5_set ⟨Nat.le_of_ble_eq_true rfl, Nat.le_of_ble_eq_true rfl⟩ (recvK hK hW (al20 h 20 (by decide)) (ct20 0) rfl) rfl hl.1 rfl (Nat.le_of_ble_eq_true rfl) dX5_engage_63 ⟨Nat.le_of_ble_eq_true rfl, Nat.le_of_ble_eq_true rfl⟩) hS (fun H locs hW hS => ?_)
            refine lv_iload_n hx hb dX5_engage_66 rfl (lv_at hl 3 rfl) ?_
            refine lv_if_ne (tgt := 72) hx hb dX5_engage_67 (by decide) (fun c9 => ?_) (fun c9 => ?_)
            · rw [if_neg c9] at hF
              refine lv_aload_n hx hb dX5_engage_72 rfl (lv_at hl 1 rfl) ?_
              refine lv_iload_n hx hb dX5_engage_73 rfl (lv_at hl 2 rfl) ?_
              refine lv_iconst (v := 5) hx hb dX5_engage_74 (by decide) ?_
              refine lv_iconst (v := 0) hx hb dX5_engage_75 (by decide) ?_
              obtain ⟨z10, hz10, hF⟩ := bnd hF
              refine inV (runV C0 hlo hK hZ hW hS (kX5_set l lo g h _ a1 5 0  _ hz10) wCO_X5_set wML_X5_99 wIM_X5_set wSE_X5_X5_set wIN_X5 hdX5_set ⟨Nat.le_of_ble_eq_true rfl, Nat.le_of_ble_eq_true rfl⟩ (recvK hK hW (al20 h 20 (by decide)) (ct20 0) rfl) rfl hl.1 rfl (Nat.le_of_ble_eq_true rfl) dX5_engage_76 ⟨Nat.le_of_ble_eq_true rfl, Nat.le_of_ble_eq_true rfl⟩) hS (fun H locs hW hS => ?_)
              refine lv_aload_n hx hb dX5_engage_79 rfl (lv_at hl 1 rfl) ?_
              refine lv_iload_n hx hb dX5_engage_80 rfl (lv_at hl 2 rfl) ?_
              refine lv_bipush (v := 8) hx hb dX5_engage_81 (by decide) ?_
              refine lv_iconst (v := 0) hx hb dX5_engage_83 (by decide) ?_
              obtain ⟨z11, hz11, hF⟩ := bnd hF
              refine inV (runV C0 hlo hK hZ hW hS (kX5_set l lo g h _ a1 8 0  _ hz11) wCO_X5_set wML_X5_99 wIM_X5_set wSE_X5_X5_set wIN_X5 hdX5_set ⟨Nat.le_of_ble_eq_true rfl, Nat.le_of_ble_eq_true rfl⟩ (recvK hK hW (al20 h 20 (by decide)) (ct20 0) rfl) rfl hl.1 rfl (Nat.le_of_ble_eq_true rfl) dX5_engage_84 ⟨Nat.le_of_ble_eq_true rfl, Nat.le_of_ble_eq_true rfl⟩) hS (fun H locs hW hS => ?_)
              refine lv_aload_n hx hb dX5_engage_87 rfl (lv_at hl 1 rfl) ?_
              refine lv_iload_n hx hb dX5_engage_88 rfl (lv_at hl 2 rfl) ?_
              refine lv_bipush (v := 10) hx hb dX5_engage_89 (by decide) ?_
              refine lv_aload_n hx hb dX5_engage_91 rfl (lv_at hl 1 rfl) ?_
              refine lv_aload_n hx hb dX5_engage_92 rfl (lv_at hl 1 rfl) ?_
              refine lv_iload_n hx hb dX5_engage_93 rfl (lv_at hl 2 rfl) ?_
              refine lv_iconst (v := 0) hx hb dX5_engage_94 (by decide) ?_
              obtain ⟨z12, hz12, hF⟩ := bnd hF
              refine inI (runV C0 hlo hK hZ hW hS (kX5_get l lo g h _ a1 0  _ _ hz12) wCO_X5_get wML_X5_77 wIM_X5_get wSE_X5_X5_get wIN_X5 hdX5_get ⟨Nat.le_of_ble_eq_true rfl, Nat.le_of_ble_eq_true rfl⟩ (recvK hK hW (al20 h 20 (by decide)) (ct20 0) rfl) rfl hl.1 rfl (Nat.le_of_ble_eq_true rfl) dX5_engage_95 ⟨Nat.le_of_ble_eq_true rfl, Nat.le_of_ble_eq_true rfl⟩) hS (fun H locs hW hS => ?_)
              refine lv_iconst (v := 2) hx hb dX5_engage_98 (by decide) ?_
              obtain ⟨z13, hz13, hF⟩ := bnd hF
              refine inI (runV C0 hlo hK hZ hW hS (kX5_sp l lo g h _ z12.1 2  _ _ hz13) wCO_X5_sp wML_X5_67 wIM_X5_sp wSE_X5_X5_sp wIN_X5 hdX5_sp ⟨Nat.le_of_ble_eq_true rfl, Nat.le_of_ble_eq_true rfl⟩ (recvK hK hW (al20 h 20 (by decide)) (ct20 0) rfl) rfl hl.1 rfl (Nat.le_of_ble_eq_true rfl) dX5_engage_99 ⟨Nat.le_of_ble_eq_true rfl, Nat.le_of_ble_eq_true rfl⟩) hS (fun H locs hW hS => ?_)
              obtain ⟨z14, hz14, hF⟩ := bnd hF
              refine inV (runV C0 hlo hK hZ hW hS (kX5_set l lo g h _ a1 10 z13.1  _ hz14) wCO_X5_set wML_X5_99 wIM_X5_set wSE_X5_X5_set wIN_X5 hdX5_set ⟨Nat.le_of_ble_eq_true rfl, Nat.le_of_ble_eq_true rfl⟩ (recvK hK hW (al20 h 20 (by decide)) (ct20 0) rfl) rfl hl.1 rfl (Nat.le_of_ble_eq_true rfl) dX5_engage_102 ⟨Nat.le_of_ble_eq_true rfl, Nat.le_of_ble_eq_true rfl⟩) hS (fun H locs hW hS => ?_)
              refine lv_iconst (v := 0) hx hb dX5_engage_105 (by decide) ?_
              cases hF
              exact retZ C0 hr hlk (Or.inl rfl) hW hS dX5_engage_106
            · rw [if_pos c9] at hF
              refine lv_iconst (v := 1) hx hb dX5_engage_70 (by decide) ?_
              cases hF
              exact retZ C0 hr hlk (Or.inr rfl) hW hS dX5_engage_71
          · rw [if_neg c7] at hF
            refine lv_iconst (v := 1) hx hb dX5_engage_58 (by decide) ?_
            refine lv_goto (tgt := 63) hx hb dX5_engage_59 (by decide) ?_
            obtain ⟨z15, hz15, hF⟩ := bnd hF
            refine inV (runV C0 hlo hK hZ hW hS (kX5_set l lo g h _ a1 6 1  _ hz15) wCO_X5_set wML_X5_99 wIM_X5_set wSE_X5_X5_set wIN_X5 hdX5_set ⟨Nat.le_of_ble_eq_true rfl, Nat.le_of_ble_eq_true rfl⟩ (recvK hK hW (al20 h 20 (by decide)) (ct20 0) rfl) rfl hl.1 rfl (Nat.le_of_ble_eq_true rfl) dX5_engage_63 ⟨Nat.le_of_ble_eq_true rfl, Nat.le_of_ble_eq_true rfl⟩) hS (fun H locs hW hS => ?_)
            refine lv_iload_n hx hb dX5_engage_66 rfl (lv_at hl 3 rfl) ?_
            refine lv_if_ne (tgt := 72) hx hb dX5_engage_67 (by decide) (fun c16 => ?_) (fun c16 => ?_)
            · rw [if_neg c16] at hF
              refine lv_aload_n hx hb dX5_engage_72 rfl (lv_at hl 1 rfl) ?_
              refine lv_iload_n hx hb dX5_engage_73 rfl (lv_at hl 2 rfl) ?_
              refine lv_iconst (v := 5) hx hb dX5_engage_74 (by decide) ?_
              refine lv_iconst (v := 0) hx hb dX5_engage_75 (by decide) ?_
              obtain ⟨z17, hz17, hF⟩ := bnd hF
              refine inV (runV C0 hlo hK hZ hW hS (kX5_set l lo g h _ a1 5 0  _ hz17) wCO_X5_set wML_X5_99 wIM_X5_set wSE_X5_X5_set wIN_X5 hdX5_set ⟨Nat.le_of_ble_eq_true rfl, Nat.le_of_ble_eq_true rfl⟩ (recvK hK hW (al20 h 20 (by decide)) (ct20 0) rfl) rfl hl.1 rfl (Nat.le_of_ble_eq_true rfl) dX5_engage_76 ⟨Nat.le_of_ble_eq_true rfl, Nat.le_of_ble_eq_true rfl⟩) hS (fun H locs hW hS => ?_)
              refine lv_aload_n hx hb dX5_engage_79 rfl (lv_at hl 1 rfl) ?_
              refine lv_iload_n hx hb dX5_engage_80 rfl (lv_at hl 2 rfl) ?_
              refine lv_bipush (v := 8) hx hb dX5_engage_81 (by decide) ?_
              refine lv_iconst (v := 0) hx hb dX5_engage_83 (by decide) ?_
              obtain ⟨z18, hz18, hF⟩ := bnd hF
              refine inV (runV C0 hlo hK hZ hW hS (kX5_set l lo g h _ a1 8 0  _ hz18) wCO_X5_set wML_X5_99 wIM_X5_set wSE_X5_X5_set wIN_X5 hdX5_set ⟨Nat.le_of_ble_eq_true rfl, Nat.le_of_ble_eq_true rfl⟩ (recvK hK hW (al20 h 20 (by decide)) (ct20 0) rfl) rfl hl.1 rfl (Nat.le_of_ble_eq_true rfl) dX5_engage_84 ⟨Nat.le_of_ble_eq_true rfl, Nat.le_of_ble_eq_true rfl⟩) hS (fun H locs hW hS => ?_)
              refine lv_aload_n hx hb dX5_engage_87 rfl (lv_at hl 1 rfl) ?_
              refine lv_iload_n hx hb dX5_engage_88 rfl (lv_at hl 2 rfl) ?_
              refine lv_bipush (v := 10) hx hb dX5_engage_89 (by decide) ?_
              refine lv_aload_n hx hb dX5_engage_91 rfl (lv_at hl 1 rfl) ?_
              refine lv_aload_n hx hb dX5_engage_92 rfl (lv_at hl 1 rfl) ?_
              refine lv_iload_n hx hb dX5_engage_93 rfl (lv_at hl 2 rfl) ?_
              refine lv_iconst (v := 0) hx hb dX5_engage_94 (by decide) ?_
              obtain ⟨z19, hz19, hF⟩ := bnd hF
              refine inI (runV C0 hlo hK hZ hW hS (kX5_get l lo g h _ a1 0  _ _ hz19) wCO_X5_get wML_X5_77 wIM_X5_get wSE_X5_X5_get wIN_X5 hdX5_get ⟨Nat.le_of_ble_eq_true rfl, Nat.le_of_ble_eq_true rfl⟩ (recvK hK hW (al20 h 20 (by decide)) (ct20 0) rfl) rfl hl.1 rfl (Nat.le_of_ble_eq_true rfl) dX5_engage_95 ⟨Nat.le_of_ble_eq_true rfl, Nat.le_of_ble_eq_true rfl⟩) hS (fun H locs hW hS => ?_)
              refine lv_iconst (v := 2) hx hb dX5_engage_98 (by decide) ?_
              obtain ⟨z20, hz20, hF⟩ := bnd hF
              refine inI (runV C0 hlo hK hZ hW hS (kX5_sp l lo g h _ z19.1 2  _ _ hz20) wCO_X5_sp wML_X5_67 wIM_X5_sp wSE_X5_X5_sp wIN_X5 hdX5_sp ⟨Nat.le_of_ble_eq_true rfl, Nat.le_of_ble_eq_true rfl⟩ (recvK hK hW (al20 h 20 (by decide)) (ct20 0) rfl) rfl hl.1 rfl (Nat.le_of_ble_eq_true rfl) dX5_engage_99 ⟨Nat.le_of_ble_eq_true rfl, Nat.le_of_ble_eq_true rfl⟩) hS (fun H locs hW hS => ?_)
              obtain ⟨z21, hz21, hF⟩ := bnd hF
              refine inV (runV C0 hlo hK hZ hW hS (kX5_set l lo g h _ a1 10 z20.1  _ hz21) wCO_X5_set wML_X5_99 wIM_X5_set wSE_X5_X5_set wIN_X5 hdX5_set ⟨Nat.le_of_ble_eq_true rfl, Nat.le_of_ble_eq_true rfl⟩ (recvK hK hW (al20 h 20 (by decide)) (ct20 0) rfl) rfl hl.1 rfl (Nat.le_of_ble_eq_true rfl) dX5_engage_102 ⟨Nat.le_of_ble_eq_true rfl, Nat.le_of_ble_eq_true rfl⟩) hS (fun H locs hW hS => ?_)
              refine lv_iconst (v := 0) hx hb dX5_engage_105 (by decide) ?_
              cases hF
              exact retZ C0 hr hlk (Or.inl rfl) hW hS dX5_engage_106
            · rw [if_pos c16] at hF
              refine lv_iconst (v := 1) hx hb dX5_engage_70 (by decide) ?_
              cases hF
              exact retZ C0 hr hlk (Or.inr rfl) hW hS dX5_engage_71
        · rw [if_pos c6] at hF
          refine lv_iload_n hx hb dX5_engage_48 rfl (lv_at hl 0 rfl) ?_
          cases hF
          exact retZ C0 hr hlk (Or.inl rfl) hW hS dX5_engage_49
      · rw [if_pos c5] at hF
        refine lv_iconst (v := 1) hx hb dX5_engage_37 (by decide) ?_
        refine lv_goto (tgt := 42) hx hb dX5_engage_38 (by decide) ?_
        refine lv_istore_n (lv' := [(3, .int 1), (0, .ref (h.2.2 20 0)), (1, .int a1), (2, .int a2)]) hx hb dX5_engage_42 rfl hl (by decide) rfl (fun ls hl => ?_)
        refine lv_iload_n hx hb dX5_engage_43 rfl (lv_at hl 0 rfl) ?_
        refine lv_iload_n hx hb dX5_engage_44 rfl (lv_at hl 3 rfl) ?_
        refine lv_icmp_ne (tgt := 50) hx hb dX5_engage_45 (by decide) (fun c22 => ?_) (fun c22 => ?_)
        · rw [if_neg c22] at hF
          refine lv_aload_n hx hb dX5_engage_50 rfl (lv_at hl 1 rfl) ?_
          refine lv_iload_n hx hb dX5_engage_51 rfl (lv_at hl 2 rfl) ?_
          refine lv_bipush (v := 6) hx hb dX5_engage_52 (by decide) ?_
          refine lv_iload_n hx hb dX5_engage_54 rfl (lv_at hl 3 rfl) ?_
          refine lv_if_eq (tgt := 62) hx hb dX5_engage_55 (by decide) (fun c23 => ?_) (fun c23 => ?_)
          · rw [if_pos c23] at hF
            refine lv_iconst (v := 0) hx hb dX5_engage_62 (by decide) ?_
            obtain ⟨z24, hz24, hF⟩ := bnd hF
            refine inV (runV C0 hlo hK hZ hW hS (kX5_set l lo g h _ a1 6 0  _ hz24) wCO_X5_set wML_X5_99 wIM_X5_set wSE_X5_X5_set wIN_X5 hdX5_set ⟨Nat.le_of_ble_eq_true rfl, Nat.le_of_ble_eq_true rfl⟩ (recvK hK hW (al20 h 20 (by decide)) (ct20 0) rfl) rfl hl.1 rfl (Nat.le_of_ble_eq_true rfl) dX5_engage_63 ⟨Nat.le_of_ble_eq_true rfl, Nat.le_of_ble_eq_true rfl⟩) hS (fun H locs hW hS => ?_)
            refine lv_iload_n hx hb dX5_engage_66 rfl (lv_at hl 3 rfl) ?_
            refine lv_if_ne (tgt := 72) hx hb dX5_engage_67 (by decide) (fun c25 => ?_) (fun c25 => ?_)
            · rw [if_neg c25] at hF
              refine lv_aload_n hx hb dX5_engage_72 rfl (lv_at hl 1 rfl) ?_
              refine lv_iload_n hx hb dX5_engage_73 rfl (lv_at hl 2 rfl) ?_
              refine lv_iconst (v := 5) hx hb dX5_engage_74 (by decide) ?_
              refine lv_iconst (v := 0) hx hb dX5_engage_75 (by decide) ?_
              obtain ⟨z26, hz26, hF⟩ := bnd hF
              refine inV (runV C0 hlo hK hZ hW hS (kX5_set l lo g h _ a1 5 0  _ hz26) wCO_X5_set wML_X5_99 wIM_X5_set wSE_X5_X5_set wIN_X5 hdX5_set ⟨Nat.le_of_ble_eq_true rfl, Nat.le_of_ble_eq_true rfl⟩ (recvK hK hW (al20 h 20 (by decide)) (ct20 0) rfl) rfl hl.1 rfl (Nat.le_of_ble_eq_true rfl) dX5_engage_76 ⟨Nat.le_of_ble_eq_true rfl, Nat.le_of_ble_eq_true rfl⟩) hS (fun H locs hW hS => ?_)
              refine lv_aload_n hx hb dX5_engage_79 rfl (lv_at hl 1 rfl) ?_
              refine lv_iload_n hx hb dX5_engage_80 rfl (lv_at hl 2 rfl) ?_
              refine lv_bipush (v := 8) hx hb dX5_engage_81 (by decide) ?_
              refine lv_iconst (v := 0) hx hb dX5_engage_83 (by decide) ?_
              obtain ⟨z27, hz27, hF⟩ := bnd hF
              refine inV (runV C0 hlo hK hZ hW hS (kX5_set l lo g h _ a1 8 0  _ hz27) wCO_X5_set wML_X5_99 wIM_X5_set wSE_X5_X5_set wIN_X5 hdX5_set ⟨Nat.le_of_ble_eq_true rfl, Nat.le_of_ble_eq_true rfl⟩ (recvK hK hW (al20 h 20 (by decide)) (ct20 0) rfl) rfl hl.1 rfl (Nat.le_of_ble_eq_true rfl) dX5_engage_84 ⟨Nat.le_of_ble_eq_true rfl, Nat.le_of_ble_eq_true rfl⟩) hS (fun H locs hW hS => ?_)
              refine lv_aload_n hx hb dX5_engage_87 rfl (lv_at hl 1 rfl) ?_
              refine lv_iload_n hx hb dX5_engage_88 rfl (lv_at hl 2 rfl) ?_
              refine lv_bipush (v := 10) hx hb dX5_engage_89 (by decide) ?_
              refine lv_aload_n hx hb dX5_engage_91 rfl (lv_at hl 1 rfl) ?_
              refine lv_aload_n hx hb dX5_engage_92 rfl (lv_at hl 1 rfl) ?_
              refine lv_iload_n hx hb dX5_engage_93 rfl (lv_at hl 2 rfl) ?_
              refine lv_iconst (v := 0) hx hb dX5_engage_94 (by decide) ?_
              obtain ⟨z28, hz28, hF⟩ := bnd hF
              refine inI (runV C0 hlo hK hZ hW hS (kX5_get l lo g h _ a1 0  _ _ hz28) wCO_X5_get wML_X5_77 wIM_X5_get wSE_X5_X5_get wIN_X5 hdX5_get ⟨Nat.le_of_ble_eq_true rfl, Nat.le_of_ble_eq_true rfl⟩ (recvK hK hW (al20 h 20 (by decide)) (ct20 0) rfl) rfl hl.1 rfl (Nat.le_of_ble_eq_true rfl) dX5_engage_95 ⟨Nat.le_of_ble_eq_true rfl, Nat.le_of_ble_eq_true rfl⟩) hS (fun H locs hW hS => ?_)
              refine lv_iconst (v := 2) hx hb dX5_engage_98 (by decide) ?_
              obtain ⟨z29, hz29, hF⟩ := bnd hF
              refine inI (runV C0 hlo hK hZ hW hS (kX5_sp l lo g h _ z28.1 2  _ _ hz29) wCO_X5_sp wML_X5_67 wIM_X5_sp wSE_X5_X5_sp wIN_X5 hdX5_sp ⟨Nat.le_of_ble_eq_true rfl, Nat.le_of_ble_eq_true rfl⟩ (recvK hK hW (al20 h 20 (by decide)) (ct20 0) rfl) rfl hl.1 rfl (Nat.le_of_ble_eq_true rfl) dX5_engage_99 ⟨Nat.le_of_ble_eq_true rfl, Nat.le_of_ble_eq_true rfl⟩) hS (fun H locs hW hS => ?_)
              obtain ⟨z30, hz30, hF⟩ := bnd hF
              refine inV (runV C0 hlo hK hZ hW hS (kX5_set l lo g h _ a1 10 z29.1  _ hz30) wCO_X5_set wML_X5_99 wIM_X5_set wSE_X5_X5_set wIN_X5 hdX5_set ⟨Nat.le_of_ble_eq_true rfl, Nat.le_of_ble_eq_true rfl⟩ (recvK hK hW (al20 h 20 (by decide)) (ct20 0) rfl) rfl hl.1 rfl (Nat.le_of_ble_eq_true rfl) dX5_engage_102 ⟨Nat.le_of_ble_eq_true rfl, Nat.le_of_ble_eq_true rfl⟩) hS (fun H locs hW hS => ?_)
              refine lv_iconst (v := 0) hx hb dX5_engage_105 (by decide) ?_
              cases hF
              exact retZ C0 hr hlk (Or.inl rfl) hW hS dX5_engage_106
            · rw [if_pos c25] at hF
              refine lv_iconst (v := 1) hx hb dX5_engage_70 (by decide) ?_
              cases hF
              exact retZ C0 hr hlk (Or.inr rfl) hW hS dX5_engage_71
          · rw [if_neg c23] at hF
            refine lv_iconst (v := 1) hx hb dX5_engage_58 (by decide) ?_
            refine lv_goto (tgt := 63) hx hb dX5_engage_59 (by decide) ?_
            obtain ⟨z31, hz31, hF⟩ := bnd hF
            refine inV (runV C0 hlo hK hZ hW hS (kX5_set l lo g h _ a1 6 1  _ hz31) wCO_X5_set wML_X5_99 wIM_X5_set wSE_X5_X5_set wIN_X5 hdX5_set ⟨Nat.le_of_ble_eq_true rfl, Nat.le_of_ble_eq_true rfl⟩ (recvK hK hW (al20 h 20 (by decide)) (ct20 0) rfl) rfl hl.1 rfl (Nat.le_of_ble_eq_true rfl) dX5_engage_63 ⟨Nat.le_of_ble_eq_true rfl, Nat.le_of_ble_eq_true rfl⟩) hS (fun H locs hW hS => ?_)
            refine lv_iload_n hx hb dX5_engage_66 rfl (lv_at hl 3 rfl) ?_
            refine lv_if_ne (tgt := 72) hx hb dX5_engage_67 (by decide) (fun c32 => ?_) (fun c32 => ?_)
            · rw [if_neg c32] at hF
              refine lv_aload_n hx hb dX5_engage_72 rfl (lv_at hl 1 rfl) ?_
              refine lv_iload_n hx hb dX5_engage_73 rfl (lv_at hl 2 rfl) ?_
              refine lv_iconst (v := 5) hx hb dX5_engage_74 (by decide) ?_
              refine lv_iconst (v := 0) hx hb dX5_engage_75 (by decide) ?_
              obtain ⟨z33, hz33, hF⟩ := bnd hF
              refine inV (runV C0 hlo hK hZ hW hS (kX5_set l lo g h _ a1 5 0  _ hz33) wCO_X5_set wML_X5_99 wIM_X5_set wSE_X5_X5_set wIN_X5 hdX5_set ⟨Nat.le_of_ble_eq_true rfl, Nat.le_of_ble_eq_true rfl⟩ (recvK hK hW (al20 h 20 (by decide)) (ct20 0) rfl) rfl hl.1 rfl (Nat.le_of_ble_eq_true rfl) dX5_engage_76 ⟨Nat.le_of_ble_eq_true rfl, Nat.le_of_ble_eq_true rfl⟩) hS (fun H locs hW hS => ?_)
              refine lv_aload_n hx hb dX5_engage_79 rfl (lv_at hl 1 rfl) ?_
              refine lv_iload_n hx hb dX5_engage_80 rfl (lv_at hl 2 rfl) ?_
              refine lv_bipush (v := 8) hx hb dX5_engage_81 (by decide) ?_
              refine lv_iconst (v := 0) hx hb dX5_engage_83 (by decide) ?_
              obtain ⟨z34, hz34, hF⟩ := bnd hF
              refine inV (runV C0 hlo hK hZ hW hS (kX5_set l lo g h _ a1 8 0  _ hz34) wCO_X5_set wML_X5_99 wIM_X5_set wSE_X5_X5_set wIN_X5 hdX5_set ⟨Nat.le_of_ble_eq_true rfl, Nat.le_of_ble_eq_true rfl⟩ (recvK hK hW (al20 h 20 (by decide)) (ct20 0) rfl) rfl hl.1 rfl (Nat.le_of_ble_eq_true rfl) dX5_engage_84 ⟨Nat.le_of_ble_eq_true rfl, Nat.le_of_ble_eq_true rfl⟩) hS (fun H locs hW hS => ?_)
              refine lv_aload_n hx hb dX5_engage_87 rfl (lv_at hl 1 rfl) ?_
              refine lv_iload_n hx hb dX5_engage_88 rfl (lv_at hl 2 rfl) ?_
              refine lv_bipush (v := 10) hx hb dX5_engage_89 (by decide) ?_
              refine lv_aload_n hx hb dX5_engage_91 rfl (lv_at hl 1 rfl) ?_
              refine lv_aload_n hx hb dX5_engage_92 rfl (lv_at hl 1 rfl) ?_
              refine lv_iload_n hx hb dX5_engage_93 rfl (lv_at hl 2 rfl) ?_
              refine lv_iconst (v := 0) hx hb dX5_engage_94 (by decide) ?_
              obtain ⟨z35, hz35, hF⟩ := bnd hF
              refine inI (runV C0 hlo hK hZ hW hS (kX5_get l lo g h _ a1 0  _ _ hz35) wCO_X5_get wML_X5_77 wIM_X5_get wSE_X5_X5_get wIN_X5 hdX5_get ⟨Nat.le_of_ble_eq_true rfl, Nat.le_of_ble_eq_true rfl⟩ (recvK hK hW (al20 h 20 (by decide)) (ct20 0) rfl) rfl hl.1 rfl (Nat.le_of_ble_eq_true rfl) dX5_engage_95 ⟨Nat.le_of_ble_eq_true rfl, Nat.le_of_ble_eq_true rfl⟩) hS (fun H locs hW hS => ?_)
              refine lv_iconst (v := 2) hx hb dX5_engage_98 (by decide) ?_
              obtain ⟨z36, hz36, hF⟩ := bnd hF
              refine inI (runV C0 hlo hK hZ hW hS (kX5_sp l lo g h _ z35.1 2  _ _ hz36) wCO_X5_sp wML_X5_67 wIM_X5_sp wSE_X5_X5_sp wIN_X5 hdX5_sp ⟨Nat.le_of_ble_eq_true rfl, Nat.le_of_ble_eq_true rfl⟩ (recvK hK hW (al20 h 20 (by decide)) (ct20 0) rfl) rfl hl.1 rfl (Nat.le_of_ble_eq_true rfl) dX5_engage_99 ⟨Nat.le_of_ble_eq_true rfl, Nat.le_of_ble_eq_true rfl⟩) hS (fun H locs hW hS => ?_)
              obtain ⟨z37, hz37, hF⟩ := bnd hF
              refine inV (runV C0 hlo hK hZ hW hS (kX5_set l lo g h _ a1 10 z36.1  _ hz37) wCO_X5_set wML_X5_99 wIM_X5_set wSE_X5_X5_set wIN_X5 hdX5_set ⟨Nat.le_of_ble_eq_true rfl, Nat.le_of_ble_eq_true rfl⟩ (recvK hK hW (al20 h 20 (by decide)) (ct20 0) rfl) rfl hl.1 rfl (Nat.le_of_ble_eq_true rfl) dX5_engage_102 ⟨Nat.le_of_ble_eq_true rfl, Nat.le_of_ble_eq_true rfl⟩) hS (fun H locs hW hS => ?_)
              refine lv_iconst (v := 0) hx hb dX5_engage_105 (by decide) ?_
              cases hF
              exact retZ C0 hr hlk (Or.inl rfl) hW hS dX5_engage_106
            · rw [if_pos c32] at hF
              refine lv_iconst (v := 1) hx hb dX5_engage_70 (by decide) ?_
              cases hF
              exact retZ C0 hr hlk (Or.inr rfl) hW hS dX5_engage_71
        · rw [if_pos c22] at hF
          refine lv_iload_n hx hb dX5_engage_48 rfl (lv_at hl 0 rfl) ?_
          cases hF
          exact retZ C0 hr hlk (Or.inr rfl) hW hS dX5_engage_49
    · rw [if_neg c3] at hF
      refine lv_iconst (v := 0) hx hb dX5_engage_24 (by decide) ?_
      cases hF
      exact retZ C0 hr hlk (Or.inl rfl) hW hS dX5_engage_25
  · rw [if_neg c2] at hF
    refine lv_iconst (v := 0) hx hb dX5_engage_9 (by decide) ?_
    refine lv_goto (tgt := 14) hx hb dX5_engage_10 (by decide) ?_
    refine put20_0 C0 hK hW hS 0 (al20 h 20 (by decide)) wFL_X5_38 dX5_engage_14 (fun H locs hW hS => ?_)
    refine lv_aload_n hx hb dX5_engage_17 rfl (lv_at hl 0 rfl) ?_
    refine get20 C0 hK hW 0 (al20 h 20 (by decide)) 0 (by decide) wFL_X5_38 rfl rfl dX5_engage_18 ?_
    refine lv_if_eq (tgt := 26) hx hb dX5_engage_21 (by decide) (fun c38 => ?_) (fun c38 => ?_)
    · rw [if_pos c38] at hF
      refine lv_aload_n hx hb dX5_engage_26 rfl (lv_at hl 0 rfl) ?_
      refine lv_iload_n hx hb dX5_engage_27 rfl (lv_at hl 1 rfl) ?_
      refine lv_bipush (v := 6) hx hb dX5_engage_28 (by decide) ?_
      obtain ⟨z39, hz39, hF⟩ := bnd hF
      refine inI (runV C0 hlo hK hZ hW hS (kX5_get l lo g h _ a1 6  _ _ hz39) wCO_X5_get wML_X5_77 wIM_X5_get wSE_X5_X5_get wIN_X5 hdX5_get ⟨Nat.le_of_ble_eq_true rfl, Nat.le_of_ble_eq_true rfl⟩ (recvK hK hW (al20 h 20 (by decide)) (ct20 0) rfl) rfl hl.1 rfl (Nat.le_of_ble_eq_true rfl) dX5_engage_30 ⟨Nat.le_of_ble_eq_true rfl, Nat.le_of_ble_eq_true rfl⟩) hS (fun H locs hW hS => ?_)
      refine lv_iconst (v := 1) hx hb dX5_engage_33 (by decide) ?_
      refine lv_icmp_ne (tgt := 41) hx hb dX5_engage_34 (by decide) (fun c40 => ?_) (fun c40 => ?_)
      · rw [if_neg c40] at hF
        refine lv_iconst (v := 0) hx hb dX5_engage_41 (by decide) ?_
        refine lv_istore_n (lv' := [(3, .int 0), (0, .ref (h.2.2 20 0)), (1, .int a1), (2, .int a2)]) hx hb dX5_engage_42 rfl hl (by decide) rfl (fun ls hl => ?_)
        refine lv_iload_n hx hb dX5_engage_43 rfl (lv_at hl 0 rfl) ?_
        refine lv_iload_n hx hb dX5_engage_44 rfl (lv_at hl 3 rfl) ?_
        refine lv_icmp_ne (tgt := 50) hx hb dX5_engage_45 (by decide) (fun c41 => ?_) (fun c41 => ?_)
        · rw [if_neg c41] at hF
          refine lv_aload_n hx hb dX5_engage_50 rfl (lv_at hl 1 rfl) ?_
          refine lv_iload_n hx hb dX5_engage_51 rfl (lv_at hl 2 rfl) ?_
          refine lv_bipush (v := 6) hx hb dX5_engage_52 (by decide) ?_
          refine lv_iload_n hx hb dX5_engage_54 rfl (lv_at hl 3 rfl) ?_
          refine lv_if_eq (tgt := 62) hx hb dX5_engage_55 (by decide) (fun c42 => ?_) (fun c42 => ?_)
          · rw [if_pos c42] at hF
            refine lv_iconst (v := 0) hx hb dX5_engage_62 (by decide) ?_
            obtain ⟨z43, hz43, hF⟩ := bnd hF
            refine inV (runV C0 hlo hK hZ hW hS (kX5_set l lo g h _ a1 6 0  _ hz43) wCO_X5_set wML_X5_99 wIM_X5_set wSE_X5_X5_set wIN_X5 hdX5_set ⟨Nat.le_of_ble_eq_true rfl, Nat.le_of_ble_eq_true rfl⟩ (recvK hK hW (al20 h 20 (by decide)) (ct20 0) rfl) rfl hl.1 rfl (Nat.le_of_ble_eq_true rfl) dX5_engage_63 ⟨Nat.le_of_ble_eq_true rfl, Nat.le_of_ble_eq_true rfl⟩) hS (fun H locs hW hS => ?_)
            refine lv_iload_n hx hb dX5_engage_66 rfl (lv_at hl 3 rfl) ?_
            refine lv_if_ne (tgt := 72) hx hb dX5_engage_67 (by decide) (fun c44 => ?_) (fun c44 => ?_)
            · rw [if_neg c44] at hF
              refine lv_aload_n hx hb dX5_engage_72 rfl (lv_at hl 1 rfl) ?_
              refine lv_iload_n hx hb dX5_engage_73 rfl (lv_at hl 2 rfl) ?_
              refine lv_iconst (v := 5) hx hb dX5_engage_74 (by decide) ?_
              refine lv_iconst (v := 0) hx hb dX5_engage_75 (by decide) ?_
              obtain ⟨z45, hz45, hF⟩ := bnd hF
              refine inV (runV C0 hlo hK hZ hW hS (kX5_set l lo g h _ a1 5 0  _ hz45) wCO_X5_set wML_X5_99 wIM_X5_set wSE_X5_X5_set wIN_X5 hdX5_set ⟨Nat.le_of_ble_eq_true rfl, Nat.le_of_ble_eq_true rfl⟩ (recvK hK hW (al20 h 20 (by decide)) (ct20 0) rfl) rfl hl.1 rfl (Nat.le_of_ble_eq_true rfl) dX5_engage_76 ⟨Nat.le_of_ble_eq_true rfl, Nat.le_of_ble_eq_true rfl⟩) hS (fun H locs hW hS => ?_)
              refine lv_aload_n hx hb dX5_engage_79 rfl (lv_at hl 1 rfl) ?_
              refine lv_iload_n hx hb dX5_engage_80 rfl (lv_at hl 2 rfl) ?_
              refine lv_bipush (v := 8) hx hb dX5_engage_81 (by decide) ?_
              refine lv_iconst (v := 0) hx hb dX5_engage_83 (by decide) ?_
              obtain ⟨z46, hz46, hF⟩ := bnd hF
              refine inV (runV C0 hlo hK hZ hW hS (kX5_set l lo g h _ a1 8 0  _ hz46) wCO_X5_set wML_X5_99 wIM_X5_set wSE_X5_X5_set wIN_X5 hdX5_set ⟨Nat.le_of_ble_eq_true rfl, Nat.le_of_ble_eq_true rfl⟩ (recvK hK hW (al20 h 20 (by decide)) (ct20 0) rfl) rfl hl.1 rfl (Nat.le_of_ble_eq_true rfl) dX5_engage_84 ⟨Nat.le_of_ble_eq_true rfl, Nat.le_of_ble_eq_true rfl⟩) hS (fun H locs hW hS => ?_)
              refine lv_aload_n hx hb dX5_engage_87 rfl (lv_at hl 1 rfl) ?_
              refine lv_iload_n hx hb dX5_engage_88 rfl (lv_at hl 2 rfl) ?_
              refine lv_bipush (v := 10) hx hb dX5_engage_89 (by decide) ?_
              refine lv_aload_n hx hb dX5_engage_91 rfl (lv_at hl 1 rfl) ?_
              refine lv_aload_n hx hb dX5_engage_92 rfl (lv_at hl 1 rfl) ?_
              refine lv_iload_n hx hb dX5_engage_93 rfl (lv_at hl 2 rfl) ?_
              refine lv_iconst (v := 0) hx hb dX5_engage_94 (by decide) ?_
              obtain ⟨z47, hz47, hF⟩ := bnd hF
              refine inI (runV C0 hlo hK hZ hW hS (kX5_get l lo g h _ a1 0  _ _ hz47) wCO_X5_get wML_X5_77 wIM_X5_get wSE_X5_X5_get wIN_X5 hdX5_get ⟨Nat.le_of_ble_eq_true rfl, Nat.le_of_ble_eq_true rfl⟩ (recvK hK hW (al20 h 20 (by decide)) (ct20 0) rfl) rfl hl.1 rfl (Nat.le_of_ble_eq_true rfl) dX5_engage_95 ⟨Nat.le_of_ble_eq_true rfl, Nat.le_of_ble_eq_true rfl⟩) hS (fun H locs hW hS => ?_)
              refine lv_iconst (v := 2) hx hb dX5_engage_98 (by decide) ?_
              obtain ⟨z48, hz48, hF⟩ := bnd hF
              refine inI (runV C0 hlo hK hZ hW hS (kX5_sp l lo g h _ z47.1 2  _ _ hz48) wCO_X5_sp wML_X5_67 wIM_X5_sp wSE_X5_X5_sp wIN_X5 hdX5_sp ⟨Nat.le_of_ble_eq_true rfl, Nat.le_of_ble_eq_true rfl⟩ (recvK hK hW (al20 h 20 (by decide)) (ct20 0) rfl) rfl hl.1 rfl (Nat.le_of_ble_eq_true rfl) dX5_engage_99 ⟨Nat.le_of_ble_eq_true rfl, Nat.le_of_ble_eq_true rfl⟩) hS (fun H locs hW hS => ?_)
              obtain ⟨z49, hz49, hF⟩ := bnd hF
              refine inV (runV C0 hlo hK hZ hW hS (kX5_set l lo g h _ a1 10 z48.1  _ hz49) wCO_X5_set wML_X5_99 wIM_X5_set wSE_X5_X5_set wIN_X5 hdX5_set ⟨Nat.le_of_ble_eq_true rfl, Nat.le_of_ble_eq_true rfl⟩ (recvK hK hW (al20 h 20 (by decide)) (ct20 0) rfl) rfl hl.1 rfl (Nat.le_of_ble_eq_true rfl) dX5_engage_102 ⟨Nat.le_of_ble_eq_true rfl, Nat.le_of_ble_eq_true rfl⟩) hS (fun H locs hW hS => ?_)
              refine lv_iconst (v := 0) hx hb dX5_engage_105 (by decide) ?_
              cases hF
              exact retZ C0 hr hlk (Or.inl rfl) hW hS dX5_engage_106
            · rw [if_pos c44] at hF
              refine lv_iconst (v := 1) hx hb dX5_engage_70 (by decide) ?_
              cases hF
              exact retZ C0 hr hlk (Or.inr rfl) hW hS dX5_engage_71
          · rw [if_neg c42] at hF
            refine lv_iconst (v := 1) hx hb dX5_engage_58 (by decide) ?_
            refine lv_goto (tgt := 63) hx hb dX5_engage_59 (by decide) ?_
            obtain ⟨z50, hz50, hF⟩ := bnd hF
            refine inV (runV C0 hlo hK hZ hW hS (kX5_set l lo g h _ a1 6 1  _ hz50) wCO_X5_set wML_X5_99 wIM_X5_set wSE_X5_X5_set wIN_X5 hdX5_set ⟨Nat.le_of_ble_eq_true rfl, Nat.le_of_ble_eq_true rfl⟩ (recvK hK hW (al20 h 20 (by decide)) (ct20 0) rfl) rfl hl.1 rfl (Nat.le_of_ble_eq_true rfl) dX5_engage_63 ⟨Nat.le_of_ble_eq_true rfl, Nat.le_of_ble_eq_true rfl⟩) hS (fun H locs hW hS => ?_)
            refine lv_iload_n hx hb dX5_engage_66 rfl (lv_at hl 3 rfl) ?_
            refine lv_if_ne (tgt := 72) hx hb dX5_engage_67 (by decide) (fun c51 => ?_) (fun c51 => ?_)
            · rw [if_neg c51] at hF
              refine lv_aload_n hx hb dX5_engage_72 rfl (lv_at hl 1 rfl) ?_
              refine lv_iload_n hx hb dX5_engage_73 rfl (lv_at hl 2 rfl) ?_
              refine lv_iconst (v := 5) hx hb dX5_engage_74 (by decide) ?_
              refine lv_iconst (v := 0) hx hb dX5_engage_75 (by decide) ?_
              obtain ⟨z52, hz52, hF⟩ := bnd hF
              refine inV (runV C0 hlo hK hZ hW hS (kX5_set l lo g h _ a1 5 0  _ hz52) wCO_X5_set wML_X5_99 wIM_X5_set wSE_X5_X5_set wIN_X5 hdX5_set ⟨Nat.le_of_ble_eq_true rfl, Nat.le_of_ble_eq_true rfl⟩ (recvK hK hW (al20 h 20 (by decide)) (ct20 0) rfl) rfl hl.1 rfl (Nat.le_of_ble_eq_true rfl) dX5_engage_76 ⟨Nat.le_of_ble_eq_true rfl, Nat.le_of_ble_eq_true rfl⟩) hS (fun H locs hW hS => ?_)
              refine lv_aload_n hx hb dX5_engage_79 rfl (lv_at hl 1 rfl) ?_
              refine lv_iload_n hx hb dX5_engage_80 rfl (lv_at hl 2 rfl) ?_
              refine lv_bipush (v := 8) hx hb dX5_engage_81 (by decide) ?_
              refine lv_iconst (v := 0) hx hb dX5_engage_83 (by decide) ?_
              obtain ⟨z53, hz53, hF⟩ := bnd hF
              refine inV (runV C0 hlo hK hZ hW hS (kX5_set l lo g h _ a1 8 0  _ hz53) wCO_X5_set wML_X5_99 wIM_X5_set wSE_X5_X5_set wIN_X5 hdX5_set ⟨Nat.le_of_ble_eq_true rfl, Nat.le_of_ble_eq_true rfl⟩ (recvK hK hW (al20 h 20 (by decide)) (ct20 0) rfl) rfl hl.1 rfl (Nat.le_of_ble_eq_true rfl) dX5_engage_84 ⟨Nat.le_of_ble_eq_true rfl, Nat.le_of_ble_eq_true rfl⟩) hS (fun H locs hW hS => ?_)
              refine lv_aload_n hx hb dX5_engage_87 rfl (lv_at hl 1 rfl) ?_
              refine lv_iload_n hx hb dX5_engage_88 rfl (lv_at hl 2 rfl) ?_
              refine lv_bipush (v := 10) hx hb dX5_engage_89 (by decide) ?_
              refine lv_aload_n hx hb dX5_engage_91 rfl (lv_at hl 1 rfl) ?_
              refine lv_aload_n hx hb dX5_engage_92 rfl (lv_at hl 1 rfl) ?_
              refine lv_iload_n hx hb dX5_engage_93 rfl (lv_at hl 2 rfl) ?_
              refine lv_iconst (v := 0) hx hb dX5_engage_94 (by decide) ?_
              obtain ⟨z54, hz54, hF⟩ := bnd hF
              refine inI (runV C0 hlo hK hZ hW hS (kX5_get l lo g h _ a1 0  _ _ hz54) wCO_X5_get wML_X5_77 wIM_X5_get wSE_X5_X5_get wIN_X5 hdX5_get ⟨Nat.le_of_ble_eq_true rfl, Nat.le_of_ble_eq_true rfl⟩ (recvK hK hW (al20 h 20 (by decide)) (ct20 0) rfl) rfl hl.1 rfl (Nat.le_of_ble_eq_true rfl) dX5_engage_95 ⟨Nat.le_of_ble_eq_true rfl, Nat.le_of_ble_eq_true rfl⟩) hS (fun H locs hW hS => ?_)
              refine lv_iconst (v := 2) hx hb dX5_engage_98 (by decide) ?_
              obtain ⟨z55, hz55, hF⟩ := bnd hF
              refine inI (runV C0 hlo hK hZ hW hS (kX5_sp l lo g h _ z54.1 2  _ _ hz55) wCO_X5_sp wML_X5_67 wIM_X5_sp wSE_X5_X5_sp wIN_X5 hdX5_sp ⟨Nat.le_of_ble_eq_true rfl, Nat.le_of_ble_eq_true rfl⟩ (recvK hK hW (al20 h 20 (by decide)) (ct20 0) rfl) rfl hl.1 rfl (Nat.le_of_ble_eq_true rfl) dX5_engage_99 ⟨Nat.le_of_ble_eq_true rfl, Nat.le_of_ble_eq_true rfl⟩) hS (fun H locs hW hS => ?_)
              obtain ⟨z56, hz56, hF⟩ := bnd hF
              refine inV (runV C0 hlo hK hZ hW hS (kX5_set l lo g h _ a1 10 z55.1  _ hz56) wCO_X5_set wML_X5_99 wIM_X5_set wSE_X5_X5_set wIN_X5 hdX5_set ⟨Nat.le_of_ble_eq_true rfl, Nat.le_of_ble_eq_true rfl⟩ (recvK hK hW (al20 h 20 (by decide)) (ct20 0) rfl) rfl hl.1 rfl (Nat.le_of_ble_eq_true rfl) dX5_engage_102 ⟨Nat.le_of_ble_eq_true rfl, Nat.le_of_ble_eq_true rfl⟩) hS (fun H locs hW hS => ?_)
              refine lv_iconst (v := 0) hx hb dX5_engage_105 (by decide) ?_
              cases hF
              exact retZ C0 hr hlk (Or.inl rfl) hW hS dX5_engage_106
            · rw [if_pos c51] at hF
              refine lv_iconst (v := 1) hx hb dX5_engage_70 (by decide) ?_
              cases hF
              exact retZ C0 hr hlk (Or.inr rfl) hW hS dX5_engage_71
        · rw [if_pos c41] at hF
          refine lv_iload_n hx hb dX5_engage_48 rfl (lv_at hl 0 rfl) ?_
          cases hF
          exact retZ C0 hr hlk (Or.inl rfl) hW hS dX5_engage_49
      · rw [if_pos c40] at hF
        refine lv_iconst (v := 1) hx hb dX5_engage_37 (by decide) ?_
        refine lv_goto (tgt := 42) hx hb dX5_engage_38 (by decide) ?_
        refine lv_istore_n (lv' := [(3, .int 1), (0, .ref (h.2.2 20 0)), (1, .int a1), (2, .int a2)]) hx hb dX5_engage_42 rfl hl (by decide) rfl (fun ls hl => ?_)
        refine lv_iload_n hx hb dX5_engage_43 rfl (lv_at hl 0 rfl) ?_
        refine lv_iload_n hx hb dX5_engage_44 rfl (lv_at hl 3 rfl) ?_
        refine lv_icmp_ne (tgt := 50) hx hb dX5_engage_45 (by decide) (fun c57 => ?_) (fun c57 => ?_)
        · rw [if_neg c57] at hF
          refine lv_aload_n hx hb dX5_engage_50 rfl (lv_at hl 1 rfl) ?_
          refine lv_iload_n hx hb dX5_engage_51 rfl (lv_at hl 2 rfl) ?_
          refine lv_bipush (v := 6) hx hb dX5_engage_52 (by decide) ?_
          refine lv_iload_n hx hb dX5_engage_54 rfl (lv_at hl 3 rfl) ?_
          refine lv_if_eq (tgt := 62) hx hb dX5_engage_55 (by decide) (fun c58 => ?_) (fun c58 => ?_)
          · rw [if_pos c58] at hF
            refine lv_iconst (v := 0) hx hb dX5_engage_62 (by decide) ?_
            obtain ⟨z59, hz59, hF⟩ := bnd hF
            refine inV (runV C0 hlo hK hZ hW hS (kX5_set l lo g h _ a1 6 0  _ hz59) wCO_X5_set wML_X5_99 wIM_X5_set wSE_X5_X5_set wIN_X5 hdX5_set ⟨Nat.le_of_ble_eq_true rfl, Nat.le_of_ble_eq_true rfl⟩ (recvK hK hW (al20 h 20 (by decide)) (ct20 0) rfl) rfl hl.1 rfl (Nat.le_of_ble_eq_true rfl) dX5_engage_63 ⟨Nat.le_of_ble_eq_true rfl, Nat.le_of_ble_eq_true rfl⟩) hS (fun H locs hW hS => ?_)
            refine lv_iload_n hx hb dX5_engage_66 rfl (lv_at hl 3 rfl) ?_
            refine lv_if_ne (tgt := 72) hx hb dX5_engage_67 (by decide) (fun c60 => ?_) (fun c60 => ?_)
            · rw [if_neg c60] at hF
              refine lv_aload_n hx hb dX5_engage_72 rfl (lv_at hl 1 rfl) ?_
              refine lv_iload_n hx hb dX5_engage_73 rfl (lv_at hl 2 rfl) ?_
              refine lv_iconst (v := 5) hx hb dX5_engage_74 (by decide) ?_
              refine lv_iconst (v := 0) hx hb dX5_engage_75 (by decide) ?_
              obtain ⟨z61, hz61, hF⟩ := bnd hF
              refine inV (runV C0 hlo hK hZ hW hS (kX5_set l lo g h _ a1 5 0  _ hz61) wCO_X5_set wML_X5_99 wIM_X5_set wSE_X5_X5_set wIN_X5 hdX5_set ⟨Nat.le_of_ble_eq_true rfl, Nat.le_of_ble_eq_true rfl⟩ (recvK hK hW (al20 h 20 (by decide)) (ct20 0) rfl) rfl hl.1 rfl (Nat.le_of_ble_eq_true rfl) dX5_engage_76 ⟨Nat.le_of_ble_eq_true rfl, Nat.le_of_ble_eq_true rfl⟩) hS (fun H locs hW hS => ?_)
              refine lv_aload_n hx hb dX5_engage_79 rfl (lv_at hl 1 rfl) ?_
              refine lv_iload_n hx hb dX5_engage_80 rfl (lv_at hl 2 rfl) ?_
              refine lv_bipush (v := 8) hx hb dX5_engage_81 (by decide) ?_
              refine lv_iconst (v := 0) hx hb dX5_engage_83 (by decide) ?_
              obtain ⟨z62, hz62, hF⟩ := bnd hF
              refine inV (runV C0 hlo hK hZ hW hS (kX5_set l lo g h _ a1 8 0  _ hz62) wCO_X5_set wML_X5_99 wIM_X5_set wSE_X5_X5_set wIN_X5 hdX5_set ⟨Nat.le_of_ble_eq_true rfl, Nat.le_of_ble_eq_true rfl⟩ (recvK hK hW (al20 h 20 (by decide)) (ct20 0) rfl) rfl hl.1 rfl (Nat.le_of_ble_eq_true rfl) dX5_engage_84 ⟨Nat.le_of_ble_eq_true rfl, Nat.le_of_ble_eq_true rfl⟩) hS (fun H locs hW hS => ?_)
              refine lv_aload_n hx hb dX5_engage_87 rfl (lv_at hl 1 rfl) ?_
              refine lv_iload_n hx hb dX5_engage_88 rfl (lv_at hl 2 rfl) ?_
              refine lv_bipush (v := 10) hx hb dX5_engage_89 (by decide) ?_
              refine lv_aload_n hx hb dX5_engage_91 rfl (lv_at hl 1 rfl) ?_
              refine lv_aload_n hx hb dX5_engage_92 rfl (lv_at hl 1 rfl) ?_
              refine lv_iload_n hx hb dX5_engage_93 rfl (lv_at hl 2 rfl) ?_
              refine lv_iconst (v := 0) hx hb dX5_engage_94 (by decide) ?_
              obtain ⟨z63, hz63, hF⟩ := bnd hF
              refine inI (runV C0 hlo hK hZ hW hS (kX5_get l lo g h _ a1 0  _ _ hz63) wCO_X5_get wML_X5_77 wIM_X5_get wSE_X5_X5_get wIN_X5 hdX5_get ⟨Nat.le_of_ble_eq_true rfl, Nat.le_of_ble_eq_true rfl⟩ (recvK hK hW (al20 h 20 (by decide)) (ct20 0) rfl) rfl hl.1 rfl (Nat.le_of_ble_eq_true rfl) dX5_engage_95 ⟨Nat.le_of_ble_eq_true rfl, Nat.le_of_ble_eq_true rfl⟩) hS (fun H locs hW hS => ?_)
              refine lv_iconst (v := 2) hx hb dX5_engage_98 (by decide) ?_
              obtain ⟨z64, hz64, hF⟩ := bnd hF
              refine inI (runV C0 hlo hK hZ hW hS (kX5_sp l lo g h _ z63.1 2  _ _ hz64) wCO_X5_sp wML_X5_67 wIM_X5_sp wSE_X5_X5_sp wIN_X5 hdX5_sp ⟨Nat.le_of_ble_eq_true rfl, Nat.le_of_ble_eq_true rfl⟩ (recvK hK hW (al20 h 20 (by decide)) (ct20 0) rfl) rfl hl.1 rfl (Nat.le_of_ble_eq_true rfl) dX5_engage_99 ⟨Nat.le_of_ble_eq_true rfl, Nat.le_of_ble_eq_true rfl⟩) hS (fun H locs hW hS => ?_)
              obtain ⟨z65, hz65, hF⟩ := bnd hF
              refine inV (runV C0 hlo hK hZ hW hS (kX5_set l lo g h _ a1 10 z64.1  _ hz65) wCO_X5_set wML_X5_99 wIM_X5_set wSE_X5_X5_set wIN_X5 hdX5_set ⟨Nat.le_of_ble_eq_true rfl, Nat.le_of_ble_eq_true rfl⟩ (recvK hK hW (al20 h 20 (by decide)) (ct20 0) rfl) rfl hl.1 rfl (Nat.le_of_ble_eq_true rfl) dX5_engage_102 ⟨Nat.le_of_ble_eq_true rfl, Nat.le_of_ble_eq_true rfl⟩) hS (fun H locs hW hS => ?_)
              refine lv_iconst (v := 0) hx hb dX5_engage_105 (by decide) ?_
              cases hF
              exact retZ C0 hr hlk (Or.inl rfl) hW hS dX5_engage_106
            · rw [if_pos c60] at hF
              refine lv_iconst (v := 1) hx hb dX5_engage_70 (by decide) ?_
              cases hF
              exact retZ C0 hr hlk (Or.inr rfl) hW hS dX5_engage_71
          · rw [if_neg c58] at hF
            refine lv_iconst (v := 1) hx hb dX5_engage_58 (by decide) ?_
            refine lv_goto (tgt := 63) hx hb dX5_engage_59 (by decide) ?_
            obtain ⟨z66, hz66, hF⟩ := bnd hF
            refine inV (runV C0 hlo hK hZ hW hS (kX5_set l lo g h _ a1 6 1  _ hz66) wCO_X5_set wML_X5_99 wIM_X5_set wSE_X5_X5_set wIN_X5 hdX5_set ⟨Nat.le_of_ble_eq_true rfl, Nat.le_of_ble_eq_true rfl⟩ (recvK hK hW (al20 h 20 (by decide)) (ct20 0) rfl) rfl hl.1 rfl (Nat.le_of_ble_eq_true rfl) dX5_engage_63 ⟨Nat.le_of_ble_eq_true rfl, Nat.le_of_ble_eq_true rfl⟩) hS (fun H locs hW hS => ?_)
            refine lv_iload_n hx hb dX5_engage_66 rfl (lv_at hl 3 rfl) ?_
            refine lv_if_ne (tgt := 72) hx hb dX5_engage_67 (by decide) (fun c67 => ?_) (fun c67 => ?_)
            · rw [if_neg c67] at hF
              refine lv_aload_n hx hb dX5_engage_72 rfl (lv_at hl 1 rfl) ?_
              refine lv_iload_n hx hb dX5_engage_73 rfl (lv_at hl 2 rfl) ?_
              refine lv_iconst (v := 5) hx hb dX5_engage_74 (by decide) ?_
              refine lv_iconst (v := 0) hx hb dX5_engage_75 (by decide) ?_
              obtain ⟨z68, hz68, hF⟩ := bnd hF
              refine inV (runV C0 hlo hK hZ hW hS (kX5_set l lo g h _ a1 5 0  _ hz68) wCO_X5_set wML_X5_99 wIM_X5_set wSE_X5_X5_set wIN_X5 hdX5_set ⟨Nat.le_of_ble_eq_true rfl, Nat.le_of_ble_eq_true rfl⟩ (recvK hK hW (al20 h 20 (by decide)) (ct20 0) rfl) rfl hl.1 rfl (Nat.le_of_ble_eq_true rfl) dX5_engage_76 ⟨Nat.le_of_ble_eq_true rfl, Nat.le_of_ble_eq_true rfl⟩) hS (fun H locs hW hS => ?_)
              refine lv_aload_n hx hb dX5_engage_79 rfl (lv_at hl 1 rfl) ?_
              refine lv_iload_n hx hb dX5_engage_80 rfl (lv_at hl 2 rfl) ?_
              refine lv_bipush (v := 8) hx hb dX5_engage_81 (by decide) ?_
              refine lv_iconst (v := 0) hx hb dX5_engage_83 (by decide) ?_
              obtain ⟨z69, hz69, hF⟩ := bnd hF
              refine inV (runV C0 hlo hK hZ hW hS (kX5_set l lo g h _ a1 8 0  _ hz69) wCO_X5_set wML_X5_99 wIM_X5_set wSE_X5_X5_set wIN_X5 hdX5_set ⟨Nat.le_of_ble_eq_true rfl, Nat.le_of_ble_eq_true rfl⟩ (recvK hK hW (al20 h 20 (by decide)) (ct20 0) rfl) rfl hl.1 rfl (Nat.le_of_ble_eq_true rfl) dX5_engage_84 ⟨Nat.le_of_ble_eq_true rfl, Nat.le_of_ble_eq_true rfl⟩) hS (fun H locs hW hS => ?_)
              refine lv_aload_n hx hb dX5_engage_87 rfl (lv_at hl 1 rfl) ?_
              refine lv_iload_n hx hb dX5_engage_88 rfl (lv_at hl 2 rfl) ?_
              refine lv_bipush (v := 10) hx hb dX5_engage_89 (by decide) ?_
              refine lv_aload_n hx hb dX5_engage_91 rfl (lv_at hl 1 rfl) ?_
              refine lv_aload_n hx hb dX5_engage_92 rfl (lv_at hl 1 rfl) ?_
              refine lv_iload_n hx hb dX5_engage_93 rfl (lv_at hl 2 rfl) ?_
              refine lv_iconst (v := 0) hx hb dX5_engage_94 (by decide) ?_
              obtain ⟨z70, hz70, hF⟩ := bnd hF
              refine inI (runV C0 hlo hK hZ hW hS (kX5_get l lo g h _ a1 0  _ _ hz70) wCO_X5_get wML_X5_77 wIM_X5_get wSE_X5_X5_get wIN_X5 hdX5_get ⟨Nat.le_of_ble_eq_true rfl, Nat.le_of_ble_eq_true rfl⟩ (recvK hK hW (al20 h 20 (by decide)) (ct20 0) rfl) rfl hl.1 rfl (Nat.le_of_ble_eq_true rfl) dX5_engage_95 ⟨Nat.le_of_ble_eq_true rfl, Nat.le_of_ble_eq_true rfl⟩) hS (fun H locs hW hS => ?_)
              refine lv_iconst (v := 2) hx hb dX5_engage_98 (by decide) ?_
              obtain ⟨z71, hz71, hF⟩ := bnd hF
              refine inI (runV C0 hlo hK hZ hW hS (kX5_sp l lo g h _ z70.1 2  _ _ hz71) wCO_X5_sp wML_X5_67 wIM_X5_sp wSE_X5_X5_sp wIN_X5 hdX5_sp ⟨Nat.le_of_ble_eq_true rfl, Nat.le_of_ble_eq_true rfl⟩ (recvK hK hW (al20 h 20 (by decide)) (ct20 0) rfl) rfl hl.1 rfl (Nat.le_of_ble_eq_true rfl) dX5_engage_99 ⟨Nat.le_of_ble_eq_true rfl, Nat.le_of_ble_eq_true rfl⟩) hS (fun H locs hW hS => ?_)
              obtain ⟨z72, hz72, hF⟩ := bnd hF
              refine inV (runV C0 hlo hK hZ hW hS (kX5_set l lo g h _ a1 10 z71.1  _ hz72) wCO_X5_set wML_X5_99 wIM_X5_set wSE_X5_X5_set wIN_X5 hdX5_set ⟨Nat.le_of_ble_eq_true rfl, Nat.le_of_ble_eq_true rfl⟩ (recvK hK hW (al20 h 20 (by decide)) (ct20 0) rfl) rfl hl.1 rfl (Nat.le_of_ble_eq_true rfl) dX5_engage_102 ⟨Nat.le_of_ble_eq_true rfl, Nat.le_of_ble_eq_true rfl⟩) hS (fun H locs hW hS => ?_)
              refine lv_iconst (v := 0) hx hb dX5_engage_105 (by decide) ?_
              cases hF
              exact retZ C0 hr hlk (Or.inl rfl) hW hS dX5_engage_106
            · rw [if_pos c67] at hF
              refine lv_iconst (v := 1) hx hb dX5_engage_70 (by decide) ?_
              cases hF
              exact retZ C0 hr hlk (Or.inr rfl) hW hS dX5_engage_71
        · rw [if_pos c57] at hF
          refine lv_iload_n hx hb dX5_engage_48 rfl (lv_at hl 0 rfl) ?_
          cases hF
          exact retZ C0 hr hlk (Or.inr rfl) hW hS dX5_engage_49
    · rw [if_neg c38] at hF
      refine lv_iconst (v := 0) hx hb dX5_engage_24 (by decide) ?_
      cases hF
      exact retZ C0 hr hlk (Or.inl rfl) hW hS dX5_engage_25
theorem hdX5_pin : yX5_pin.cls = RX5 ∧ yX5_pin.cls ≠ "java/lang/invoke/MethodHandle" ∧ yX5_pin.cls ≠ "java/lang/invoke/VarHandle" ∧ (parseMethodDescriptor yX5_pin.desc).map (fun d => d.parameters.length) = some 3 := by decide +kernel
def FX5_pin (ns nb : Nat) (σ : Sg) (a1 : Int32) (a2 : Int32) (a3 : Int32) : Option (Int32 × Sg) :=
  (FX5_isBird ns nb (sI σ 20 0 0 0) a1).bind fun z1 => if z1.1 = 0 then ((FX5_fail ns nb z1.2 1).bind fun z43 => some (z43.1, z43.2)) else ((FX5_get ns nb z1.2 a1 2).bind fun z3 => (FX5_isIn ns nb z3.2 a2 0 (z3.1 - 1)).bind fun z4 => if z4.1 = 0 then ((FX5_fail ns nb z4.2 2).bind fun z6 => some (z6.1, z6.2)) else ((FX5_isIn ns nb z4.2 a3 0 5).bind fun z7 => if z7.1 = 0 then ((FX5_fail ns nb z7.2 2).bind fun z42 => some (z42.1, z42.2)) else (if (((96 * a1) + a2) < 0 ∨ 768 ≤ ((96 * a1) + a2).toNatClampNeg) then none else (if (((z7.2.1 24 0 ((96 * a1) + a2).toNatClampNeg) >>> (a3 &&& 31)) &&& 1) = 1 then (if (((96 * a1) + a2) < 0 ∨ 768 ≤ ((96 * a1) + a2).toNatClampNeg) then none else (if (((96 * a1) + a2) < 0 ∨ 768 ≤ ((96 * a1) + a2).toNatClampNeg) then none else ((FX5_get ns nb (sI z7.2 24 0 ((96 * a1) + a2).toNatClampNeg ((z7.2.1 24 0 ((96 * a1) + a2).toNatClampNeg) ^^^ (1 <<< (a3 &&& 31)))) a1 7).bind fun z27 => (FX5_set ns nb z27.2 a1 7 (z27.1 + (-1))).bind fun z31 => (FX5_get ns nb z31 a1 7).bind fun z32 => some (z32.1, z32.2)))) else ((FX5_get ns nb z7.2 a1 7).bind fun z17 => if z17.1 = 24 then ((FX5_fail ns nb z17.2 3).bind fun z25 => some (z25.1, z25.2)) else (if (((96 * a1) + a2) < 0 ∨ 768 ≤ ((96 * a1) + a2).toNatClampNeg) then none else (if (((96 * a1) + a2) < 0 ∨ 768 ≤ ((96 * a1) + a2).toNatClampNeg) then none else ((FX5_get ns nb (sI z17.2 24 0 ((96 * a1) + a2).toNatClampNeg ((z17.2.1 24 0 ((96 * a1) + a2).toNatClampNeg) ^^^ (1 <<< (a3 &&& 31)))) a1 7).bind fun z19 => (FX5_set ns nb z19.2 a1 7 (z19.1 + 1)).bind fun z21 => (FX5_get ns nb z21 a1 7).bind fun z22 => some (z22.1, z22.2)))))))))
set_option maxHeartbeats 4000000 in
set_option maxRecDepth 100000 in
theorem kX5_pin (l : Launch) (lo : Nat) (g : Gx) (h : Sh) (σ : Sg) (a1 : Int32) (a2 : Int32) (a3 : Int32)  (r : Int32) (σ1 : Sg) (hF : FX5_pin h.1 h.2.1 σ a1 a2 a3 = some (r, σ1)) : MI l yX5_pin (ws_ yX5_pin cX5_pin 6 (some .int)) 2 43 0 0 lo g h [.ref (h.2.2 20 0), .int a1, .int a2, .int a3] σ r σ1 := by
  refine ofB (own := RX5) (by decide +kernel) rfl (fun p e s m below meth c C0 hr hlk hlo hK hZ hW hS ls hl => ?_) (Nat.le_of_ble_eq_true rfl)
  have hx := C0.1
  have hb := C0.2.1
  have hl : lv_has ls 6 [(0, .ref (h.2.2 20 0)), (1, .int a1), (2, .int a2), (3, .int a3)] := hl
  unfold FX5_pin at hF
  refine lv_aload_n hx hb dX5_pin_0 rfl (lv_at hl 0 rfl) ?_
  refine lv_iconst (v := 0) hx hb dX5_pin_1 (by decide) ?_
  refine put20_0 C0 hK hW hS 0 (al20 h 20 (by decide)) wFL_X5_38 dX5_pin_2 (fun H locs hW hS => ?_)
  refine lv_aload_n hx hb dX5_pin_5 rfl (lv_at hl 0 rfl) ?_
  refine lv_iload_n hx hb dX5_pin_6 rfl (lv_at hl 1 rfl) ?_
  obtain ⟨z1, hz1, hF⟩ := bnd hF
  refine inI (runV C0 hlo hK hZ hW hS (kX5_isBird l lo g h _ a1  _ _ hz1) wCO_X5_isBird wML_X5_96 wIM_X5_isBird wSE_X5_X5_isBird wIN_X5 hdX5_isBird ⟨Nat.le_of_ble_eq_true rfl, Nat.le_of_ble_eq_true rfl⟩ (recvK hK hW (al20 h 20 (by decide)) (ct20 0) rfl) rfl hl.1 rfl (Nat.le_of_ble_eq_true rfl) dX5_pin_7 ⟨Nat.le_of_ble_eq_true rfl, Nat.le_of_ble_eq_true rfl⟩) hS (fun H locs hW hS => ?_)
  refine lv_if_ne (tgt := 19) hx hb dX5_pin_10 (by decide) (fun c2 => ?_) (fun c2 => ?_)
  · rw [if_neg c2] at hF
    refine lv_iload_n hx hb dX5_pin_19 rfl (lv_at hl 2 rfl) ?_
    refine lv_iconst (v := 0) hx hb dX5_pin_20 (by decide) ?_
    refine lv_aload_n hx hb dX5_pin_21 rfl (lv_at hl 0 rfl) ?_
    refine lv_iload_n hx hb dX5_pin_22 rfl (lv_at hl 1 rfl) ?_
    refine lv_iconst (v := 2) hx hb dX5_pin_23 (by decide) ?_
    obtain ⟨z3, hz3, hF⟩ := bnd hF
    refine inI (runV C0 hlo hK hZ hW hS (kX5_get l lo g h _ a1 2  _ _ hz3) wCO_X5_get wML_X5_77 wIM_X5_get wSE_X5_X5_get wIN_X5 hdX5_get ⟨Nat.le_of_ble_eq_true rfl, Nat.le_of_ble_eq_true rfl⟩ (recvK hK hW (al20 h 20 (by decide)) (ct20 0) rfl) rfl hl.1 rfl (Nat.le_of_ble_eq_true rfl) dX5_pin_24 ⟨Nat.le_of_ble_eq_true rfl, Nat.le_of_ble_eq_true rfl⟩) hS (fun H locs hW hS => ?_)
    refine lv_iconst (v := 1) hx hb dX5_pin_27 (by decide) ?_
    refine lv_isub hx hb dX5_pin_28 ?_
    obtain ⟨z4, hz4, hF⟩ := bnd hF
    refine inI (runS C0 hlo hK hZ hW hS (kX5_isIn l lo g h _ a2 0 (z3.1 - 1)  _ _ hz4) wCO_X5_isIn wML_X5_45 wST_X5_isIn wIN_X5 hdsX5_isIn ⟨Nat.le_of_ble_eq_true rfl, Nat.le_of_ble_eq_true rfl⟩ rfl hl.1 rfl (Nat.le_of_ble_eq_true rfl) dX5_pin_29 ⟨Nat.le_of_ble_eq_true rfl, Nat.le_of_ble_eq_true rfl⟩) hS (fun H locs hW hS => ?_)
    refine lv_if_eq (tgt := 44) hx hb dX5_pin_32 (by decide) (fun c5 => ?_) (fun c5 => ?_)
    · rw [if_pos c5] at hF
      refine lv_aload_n hx hb dX5_pin_44 rfl (lv_at hl 0 rfl) ?_
      refine lv_iconst (v := 2) hx hb dX5_pin_45 (by decide) ?_
      obtain ⟨z6, hz6, hF⟩ := bnd hF
      refine inI (runV C0 hlo hK hZ hW hS (kX5_fail l lo g h _ 2  _ _ hz6) wCO_X5_fail wML_X5_52 wIM_X5_fail wSE_X5_X5_fail wIN_X5 hdX5_fail ⟨Nat.le_of_ble_eq_true rfl, Nat.le_of_ble_eq_true rfl⟩ (recvK hK hW (al20 h 20 (by decide)) (ct20 0) rfl) rfl hl.1 rfl (Nat.le_of_ble_eq_true rfl) dX5_pin_46 ⟨Nat.le_of_ble_eq_true rfl, Nat.le_of_ble_eq_true rfl⟩) hS (fun H locs hW hS => ?_)
      cases hF
      exact retI C0 hr hlk hW hS dX5_pin_49
    · rw [if_neg c5] at hF
      refine lv_iload_n hx hb dX5_pin_35 rfl (lv_at hl 3 rfl) ?_
      refine lv_iconst (v := 0) hx hb dX5_pin_36 (by decide) ?_
      refine lv_iconst (v := 5) hx hb dX5_pin_37 (by decide) ?_
      obtain ⟨z7, hz7, hF⟩ := bnd hF
      refine inI (runS C0 hlo hK hZ hW hS (kX5_isIn l lo g h _ a3 0 5  _ _ hz7) wCO_X5_isIn wML_X5_45 wST_X5_isIn wIN_X5 hdsX5_isIn ⟨Nat.le_of_ble_eq_true rfl, Nat.le_of_ble_eq_true rfl⟩ rfl hl.1 rfl (Nat.le_of_ble_eq_true rfl) dX5_pin_38 ⟨Nat.le_of_ble_eq_true rfl, Nat.le_of_ble_eq_true rfl⟩) hS (fun H locs hW hS => ?_)
      refine lv_if_ne (tgt := 50) hx hb dX5_pin_41 (by decide) (fun c8 => ?_) (fun c8 => ?_)
      · rw [if_neg c8] at hF
        refine lv_bipush (v := 96) hx hb dX5_pin_50 (by decide) ?_
        refine lv_iload_n hx hb dX5_pin_52 rfl (lv_at hl 1 rfl) ?_
        refine lv_imul hx hb dX5_pin_53 ?_
        refine lv_iload_n hx hb dX5_pin_54 rfl (lv_at hl 2 rfl) ?_
        refine lv_iadd hx hb dX5_pin_55 ?_
        refine lv_istore (lv' := [(4, .int ((96 * a1) + a2)), (0, .ref (h.2.2 20 0)), (1, .int a1), (2, .int a2), (3, .int a3)]) hx hb dX5_pin_56 hl (by decide) rfl (fun ls hl => ?_)
        refine lv_aload_n hx hb dX5_pin_58 rfl (lv_at hl 1 rfl) ?_
        refine get20 C0 hK hW 0 (al20 h 20 (by decide)) 7 (by decide) wFL_X5_20 rfl rfl dX5_pin_59 ?_
        refine lv_iload hx hb dX5_pin_62 (lv_at hl 0 rfl) ?_
        obtain ⟨hg, hF⟩ := grd hF
        refine ald C0 hK hW 24 0 (al20 h 24 (by decide)) (by decide) hg dX5_pin_64 ?_
        refine lv_iload_n hx hb dX5_pin_65 rfl (lv_at hl 4 rfl) ?_
        refine lv_ishr hx hb dX5_pin_66 ?_
        refine lv_iconst (v := 1) hx hb dX5_pin_67 (by decide) ?_
        refine lv_iand hx hb dX5_pin_68 ?_
        refine lv_iconst (v := 1) hx hb dX5_pin_69 (by decide) ?_
        refine lv_icmp_ne (tgt := 77) hx hb dX5_pin_70 (by decide) (fun c9 => ?_) (fun c9 => ?_)
        · rw [if_neg c9] at hF
          refine lv_iconst (v := 0) hx hb dX5_pin_77 (by decide) ?_
          refine lv_istore (lv' := [(5, .int 0), (4, .int ((96 * a1) + a2)), (0, .ref (h.2.2 20 0)), (1, .int a1), (2, .int a2), (3, .int a3)]) hx hb dX5_pin_78 hl (by decide) rfl (fun ls hl => ?_)
          refine lv_iload hx hb dX5_pin_80 (lv_at hl 0 rfl) ?_
          refine lv_if_ne (tgt := 103) hx hb dX5_pin_82 (by decide) (fun c10 => absurd (by decide) c10) (fun _ => ?_)
          refine lv_aload_n hx hb dX5_pin_85 rfl (lv_at hl 2 rfl) ?_
          refine lv_iload_n hx hb dX5_pin_86 rfl (lv_at hl 3 rfl) ?_
          refine lv_bipush (v := 7) hx hb dX5_pin_87 (by decide) ?_
          obtain ⟨z17, hz17, hF⟩ := bnd hF
          refine inI (runV C0 hlo hK hZ hW hS (kX5_get l lo g h _ a1 7  _ _ hz17) wCO_X5_get wML_X5_77 wIM_X5_get wSE_X5_X5_get wIN_X5 hdX5_get ⟨Nat.le_of_ble_eq_true rfl, Nat.le_of_ble_eq_true rfl⟩ (recvK hK hW (al20 h 20 (by decide)) (ct20 0) rfl) rfl hl.1 rfl (Nat.le_of_ble_eq_true rfl) dX5_pin_89 ⟨Nat.le_of_ble_eq_true rfl, Nat.le_of_ble_eq_true rfl⟩) hS (fun H locs hW hS => ?_)
          refine lv_bipush (v := 24) hx hb dX5_pin_92 (by decide) ?_
          refine lv_icmp_ne (tgt := 103) hx hb dX5_pin_94 (by decide) (fun c18 => ?_) (fun c18 => ?_)
          · rw [if_neg c18] at hF
            refine lv_aload_n hx hb dX5_pin_103 rfl (lv_at hl 2 rfl) ?_
            refine get20 C0 hK hW 0 (al20 h 20 (by decide)) 7 (by decide) wFL_X5_20 rfl rfl dX5_pin_104 ?_
            refine lv_iload hx hb dX5_pin_107 (lv_at hl 1 rfl) ?_
            refine lv_dup2_11 hx hb dX5_pin_109 rfl rfl ?_
            obtain ⟨hg, hF⟩ := grd hF
            refine ald C0 hK hW 24 0 (al20 h 24 (by decide)) (by decide) hg dX5_pin_110 ?_
            refine lv_iconst (v := 1) hx hb dX5_pin_111 (by decide) ?_
            refine lv_iload_n hx hb dX5_pin_112 rfl (lv_at hl 5 rfl) ?_
            refine lv_ishl hx hb dX5_pin_113 ?_
            refine lv_ixor hx hb dX5_pin_114 ?_
            obtain ⟨hg, hF⟩ := grd hF
            refine ast C0 hK hW hS 24 0 (al20 h 24 (by decide)) (by decide) hg dX5_pin_115 (fun H locs hW hS => ?_)
            refine lv_aload_n hx hb dX5_pin_116 rfl (lv_at hl 2 rfl) ?_
            refine lv_iload_n hx hb dX5_pin_117 rfl (lv_at hl 3 rfl) ?_
            refine lv_bipush (v := 7) hx hb dX5_pin_118 (by decide) ?_
            refine lv_aload_n hx hb dX5_pin_120 rfl (lv_at hl 2 rfl) ?_
            refine lv_iload_n hx hb dX5_pin_121 rfl (lv_at hl 3 rfl) ?_
            refine lv_bipush (v := 7) hx hb dX5_pin_122 (by decide) ?_
            obtain ⟨z19, hz19, hF⟩ := bnd hF
            refine inI (runV C0 hlo hK hZ hW hS (kX5_get l lo g h _ a1 7  _ _ hz19) wCO_X5_get wML_X5_77 wIM_X5_get wSE_X5_X5_get wIN_X5 hdX5_get ⟨Nat.le_of_ble_eq_true rfl, Nat.le_of_ble_eq_true rfl⟩ (recvK hK hW (al20 h 20 (by decide)) (ct20 0) rfl) rfl hl.1 rfl (Nat.le_of_ble_eq_true rfl) dX5_pin_124 ⟨Nat.le_of_ble_eq_true rfl, Nat.le_of_ble_eq_true rfl⟩) hS (fun H locs hW hS => ?_)
            refine lv_iload hx hb dX5_pin_127 (lv_at hl 0 rfl) ?_
            refine lv_if_eq (tgt := 136) hx hb dX5_pin_129 (by decide) (fun _ => ?_) (fun c20 => absurd (by decide) c20)
            refine lv_iconst (v := 1) hx hb dX5_pin_136 (by decide) ?_
            refine lv_iadd hx hb dX5_pin_137 ?_
            obtain ⟨z21, hz21, hF⟩ := bnd hF
            refine inV (runV C0 hlo hK hZ hW hS (kX5_set l lo g h _ a1 7 (z19.1 + 1)  _ hz21) wCO_X5_set wML_X5_99 wIM_X5_set wSE_X5_X5_set wIN_X5 hdX5_set ⟨Nat.le_of_ble_eq_true rfl, Nat.le_of_ble_eq_true rfl⟩ (recvK hK hW (al20 h 20 (by decide)) (ct20 0) rfl) rfl hl.1 rfl (Nat.le_of_ble_eq_true rfl) dX5_pin_138 ⟨Nat.le_of_ble_eq_true rfl, Nat.le_of_ble_eq_true rfl⟩) hS (fun H locs hW hS => ?_)
            refine lv_aload_n hx hb dX5_pin_141 rfl (lv_at hl 2 rfl) ?_
            refine lv_iload_n hx hb dX5_pin_142 rfl (lv_at hl 3 rfl) ?_
            refine lv_bipush (v := 7) hx hb dX5_pin_143 (by decide) ?_
            obtain ⟨z22, hz22, hF⟩ := bnd hF
            refine inI (runV C0 hlo hK hZ hW hS (kX5_get l lo g h _ a1 7  _ _ hz22) wCO_X5_get wML_X5_77 wIM_X5_get wSE_X5_X5_get wIN_X5 hdX5_get ⟨Nat.le_of_ble_eq_true rfl, Nat.le_of_ble_eq_true rfl⟩ (recvK hK hW (al20 h 20 (by decide)) (ct20 0) rfl) rfl hl.1 rfl (Nat.le_of_ble_eq_true rfl) dX5_pin_145 ⟨Nat.le_of_ble_eq_true rfl, Nat.le_of_ble_eq_true rfl⟩) hS (fun H locs hW hS => ?_)
            cases hF
            exact retI C0 hr hlk hW hS dX5_pin_148
          · rw [if_pos c18] at hF
            refine lv_aload_n hx hb dX5_pin_97 rfl (lv_at hl 2 rfl) ?_
            refine lv_iconst (v := 3) hx hb dX5_pin_98 (by decide) ?_
            obtain ⟨z25, hz25, hF⟩ := bnd hF
            refine inI (runV C0 hlo hK hZ hW hS (kX5_fail l lo g h _ 3  _ _ hz25) wCO_X5_fail wML_X5_52 wIM_X5_fail wSE_X5_X5_fail wIN_X5 hdX5_fail ⟨Nat.le_of_ble_eq_true rfl, Nat.le_of_ble_eq_true rfl⟩ (recvK hK hW (al20 h 20 (by decide)) (ct20 0) rfl) rfl hl.1 rfl (Nat.le_of_ble_eq_true rfl) dX5_pin_99 ⟨Nat.le_of_ble_eq_true rfl, Nat.le_of_ble_eq_true rfl⟩) hS (fun H locs hW hS => ?_)
            cases hF
            exact retI C0 hr hlk hW hS dX5_pin_102
        · rw [if_pos c9] at hF
          refine lv_iconst (v := 1) hx hb dX5_pin_73 (by decide) ?_
          refine lv_goto (tgt := 78) hx hb dX5_pin_74 (by decide) ?_
          refine lv_istore (lv' := [(5, .int 1), (4, .int ((96 * a1) + a2)), (0, .ref (h.2.2 20 0)), (1, .int a1), (2, .int a2), (3, .int a3)]) hx hb dX5_pin_78 hl (by decide) rfl (fun ls hl => ?_)
          refine lv_iload hx hb dX5_pin_80 (lv_at hl 0 rfl) ?_
          refine lv_if_ne (tgt := 103) hx hb dX5_pin_82 (by decide) (fun _ => ?_) (fun c26 => absurd c26 (by decide))
          refine lv_aload_n hx hb dX5_pin_103 rfl (lv_at hl 2 rfl) ?_
          refine get20 C0 hK hW 0 (al20 h 20 (by decide)) 7 (by decide) wFL_X5_20 rfl rfl dX5_pin_104 ?_
          refine lv_iload hx hb dX5_pin_107 (lv_at hl 1 rfl) ?_
          refine lv_dup2_11 hx hb dX5_pin_109 rfl rfl ?_
          obtain ⟨hg, hF⟩ := grd hF
          refine ald C0 hK hW 24 0 (al20 h 24 (by decide)) (by decide) hg dX5_pin_110 ?_
          refine lv_iconst (v := 1) hx hb dX5_pin_111 (by decide) ?_
          refine lv_iload_n hx hb dX5_pin_112 rfl (lv_at hl 5 rfl) ?_
          refine lv_ishl hx hb dX5_pin_113 ?_
          refine lv_ixor hx hb dX5_pin_114 ?_
          obtain ⟨hg, hF⟩ := grd hF
          refine ast C0 hK hW hS 24 0 (al20 h 24 (by decide)) (by decide) hg dX5_pin_115 (fun H locs hW hS => ?_)
          refine lv_aload_n hx hb dX5_pin_116 rfl (lv_at hl 2 rfl) ?_
          refine lv_iload_n hx hb dX5_pin_117 rfl (lv_at hl 3 rfl) ?_
          refine lv_bipush (v := 7) hx hb dX5_pin_118 (by decide) ?_
          refine lv_aload_n hx hb dX5_pin_120 rfl (lv_at hl 2 rfl) ?_
          refine lv_iload_n hx hb dX5_pin_121 rfl (lv_at hl 3 rfl) ?_
          refine lv_bipush (v := 7) hx hb dX5_pin_122 (by decide) ?_
          obtain ⟨z27, hz27, hF⟩ := bnd hF
          refine inI (runV C0 hlo hK hZ hW hS (kX5_get l lo g h _ a1 7  _ _ hz27) wCO_X5_get wML_X5_77 wIM_X5_get wSE_X5_X5_get wIN_X5 hdX5_get ⟨Nat.le_of_ble_eq_true rfl, Nat.le_of_ble_eq_true rfl⟩ (recvK hK hW (al20 h 20 (by decide)) (ct20 0) rfl) rfl hl.1 rfl (Nat.le_of_ble_eq_true rfl) dX5_pin_124 ⟨Nat.le_of_ble_eq_true rfl, Nat.le_of_ble_eq_true rfl⟩) hS (fun H locs hW hS => ?_)
          refine lv_iload hx hb dX5_pin_127 (lv_at hl 0 rfl) ?_
          refine lv_if_eq (tgt := 136) hx hb dX5_pin_129 (by decide) (fun c28 => absurd c28 (by decide)) (fun _ => ?_)
          refine lv_iconst (v := (-1)) hx hb dX5_pin_132 (by decide) ?_
          refine lv_goto (tgt := 137) hx hb dX5_pin_133 (by decide) ?_
          refine lv_iadd hx hb dX5_pin_137 ?_
          obtain ⟨z31, hz31, hF⟩ := bnd hF
          refine inV (runV C0 hlo hK hZ hW hS (kX5_set l lo g h _ a1 7 (z27.1 + (-1))  _ hz31) wCO_X5_set wML_X5_99 wIM_X5_set wSE_X5_X5_set wIN_X5 hdX5_set ⟨Nat.le_of_ble_eq_true rfl, Nat.le_of_ble_eq_true rfl⟩ (recvK hK hW (al20 h 20 (by decide)) (ct20 0) rfl) rfl hl.1 rfl (Nat.le_of_ble_eq_true rfl) dX5_pin_138 ⟨Nat.le_of_ble_eq_true rfl, Nat.le_of_ble_eq_true rfl⟩) hS (fun H locs hW hS => ?_)
          refine lv_aload_n hx hb dX5_pin_141 rfl (lv_at hl 2 rfl) ?_
          refine lv_iload_n hx hb dX5_pin_142 rfl (lv_at hl 3 rfl) ?_
          refine lv_bipush (v := 7) hx hb dX5_pin_143 (by decide) ?_
          obtain ⟨z32, hz32, hF⟩ := bnd hF
          refine inI (runV C0 hlo hK hZ hW hS (kX5_get l lo g h _ a1 7  _ _ hz32) wCO_X5_get wML_X5_77 wIM_X5_get wSE_X5_X5_get wIN_X5 hdX5_get ⟨Nat.le_of_ble_eq_true rfl, Nat.le_of_ble_eq_true rfl⟩ (recvK hK hW (al20 h 20 (by decide)) (ct20 0) rfl) rfl hl.1 rfl (Nat.le_of_ble_eq_true rfl) dX5_pin_145 ⟨Nat.le_of_ble_eq_true rfl, Nat.le_of_ble_eq_true rfl⟩) hS (fun H locs hW hS => ?_)
          cases hF
          exact retI C0 hr hlk hW hS dX5_pin_148
      · rw [if_pos c8] at hF
        refine lv_aload_n hx hb dX5_pin_44 rfl (lv_at hl 0 rfl) ?_
        refine lv_iconst (v := 2) hx hb dX5_pin_45 (by decide) ?_
        obtain ⟨z42, hz42, hF⟩ := bnd hF
        refine inI (runV C0 hlo hK hZ hW hS (kX5_fail l lo g h _ 2  _ _ hz42) wCO_X5_fail wML_X5_52 wIM_X5_fail wSE_X5_X5_fail wIN_X5 hdX5_fail ⟨Nat.le_of_ble_eq_true rfl, Nat.le_of_ble_eq_true rfl⟩ (recvK hK hW (al20 h 20 (by decide)) (ct20 0) rfl) rfl hl.1 rfl (Nat.le_of_ble_eq_true rfl) dX5_pin_46 ⟨Nat.le_of_ble_eq_true rfl, Nat.le_of_ble_eq_true rfl⟩) hS (fun H locs hW hS => ?_)
        cases hF
        exact retI C0 hr hlk hW hS dX5_pin_49
  · rw [if_pos c2] at hF
    refine lv_aload_n hx hb dX5_pin_13 rfl (lv_at hl 0 rfl) ?_
    refine lv_iconst (v := 1) hx hb dX5_pin_14 (by decide) ?_
    obtain ⟨z43, hz43, hF⟩ := bnd hF
    refine inI (runV C0 hlo hK hZ hW hS (kX5_fail l lo g h _ 1  _ _ hz43) wCO_X5_fail wML_X5_52 wIM_X5_fail wSE_X5_X5_fail wIN_X5 hdX5_fail ⟨Nat.le_of_ble_eq_true rfl, Nat.le_of_ble_eq_true rfl⟩ (recvK hK hW (al20 h 20 (by decide)) (ct20 0) rfl) rfl hl.1 rfl (Nat.le_of_ble_eq_true rfl) dX5_pin_15 ⟨Nat.le_of_ble_eq_true rfl, Nat.le_of_ble_eq_true rfl⟩) hS (fun H locs hW hS => ?_)
    cases hF
    exact retI C0 hr hlk hW hS dX5_pin_18
theorem hdX5_tune : yX5_tune.cls = RX5 ∧ yX5_tune.cls ≠ "java/lang/invoke/MethodHandle" ∧ yX5_tune.cls ≠ "java/lang/invoke/VarHandle" ∧ (parseMethodDescriptor yX5_tune.desc).map (fun d => d.parameters.length) = some 3 := by decide +kernel
def FX5_tune (ns nb : Nat) (σ : Sg) (a1 : Int32) (a2 : Int32) (a3 : Int32) : Option (Int32 × Sg) :=
  (FX5_isBird ns nb (sI σ 20 0 0 0) a1).bind fun z1 => if z1.1 = 0 then ((FX5_fail ns nb z1.2 1).bind fun z3 => some (z3.1, z3.2)) else ((FX5_isIn ns nb z1.2 a2 0 5).bind fun z4 => if z4.1 = 0 then ((FX5_fail ns nb z4.2 1).bind fun z9 => some (z9.1, z9.2)) else ((FX5_isIn ns nb z4.2 a3 0 87).bind fun z6 => if z6.1 = 0 then ((FX5_fail ns nb z6.2 2).bind fun z8 => some (z8.1, z8.2)) else (if (((6 * a1) + a2) < 0 ∨ 48 ≤ ((6 * a1) + a2).toNatClampNeg) then none else (if (((6 * a1) + a2) < 0 ∨ 48 ≤ ((6 * a1) + a2).toNatClampNeg) then none else (some (z6.2.1 25 0 ((6 * a1) + a2).toNatClampNeg, (sI z6.2 25 0 ((6 * a1) + a2).toNatClampNeg a3)))))))
set_option maxHeartbeats 4000000 in
set_option maxRecDepth 100000 in
theorem kX5_tune (l : Launch) (lo : Nat) (g : Gx) (h : Sh) (σ : Sg) (a1 : Int32) (a2 : Int32) (a3 : Int32)  (r : Int32) (σ1 : Sg) (hF : FX5_tune h.1 h.2.1 σ a1 a2 a3 = some (r, σ1)) : MI l yX5_tune (ws_ yX5_tune cX5_tune 5 (some .int)) 2 43 0 0 lo g h [.ref (h.2.2 20 0), .int a1, .int a2, .int a3] σ r σ1 := by
  refine ofB (own := RX5) (by decide +kernel) rfl (fun p e s m below meth c C0 hr hlk hlo hK hZ hW hS ls hl => ?_) (Nat.le_of_ble_eq_true rfl)
  have hx := C0.1
  have hb := C0.2.1
  have hl : lv_has ls 5 [(0, .ref (h.2.2 20 0)), (1, .int a1), (2, .int a2), (3, .int a3)] := hl
  unfold FX5_tune at hF
  refine lv_aload_n hx hb dX5_tune_0 rfl (lv_at hl 0 rfl) ?_
  refine lv_iconst (v := 0) hx hb dX5_tune_1 (by decide) ?_
  refine put20_0 C0 hK hW hS 0 (al20 h 20 (by decide)) wFL_X5_38 dX5_tune_2 (fun H locs hW hS => ?_)
  refine lv_aload_n hx hb dX5_tune_5 rfl (lv_at hl 0 rfl) ?_
  refine lv_iload_n hx hb dX5_tune_6 rfl (lv_at hl 1 rfl) ?_
  obtain ⟨z1, hz1, hF⟩ := bnd hF
  refine inI (runV C0 hlo hK hZ hW hS (kX5_isBird l lo g h _ a1  _ _ hz1) wCO_X5_isBird wML_X5_96 wIM_X5_isBird wSE_X5_X5_isBird wIN_X5 hdX5_isBird ⟨Nat.le_of_ble_eq_true rfl, Nat.le_of_ble_eq_true rfl⟩ (recvK hK hW (al20 h 20 (by decide)) (ct20 0) rfl) rfl hl.1 rfl (Nat.le_of_ble_eq_true rfl) dX5_tune_7 ⟨Nat.le_of_ble_eq_true rfl, Nat.le_of_ble_eq_true rfl⟩) hS (fun H locs hW hS => ?_)
  refine lv_if_eq (tgt := 22) hx hb dX5_tune_10 (by decide) (fun c2 => ?_) (fun c2 => ?_)
  · rw [if_pos c2] at hF
    refine lv_aload_n hx hb dX5_tune_22 rfl (lv_at hl 0 rfl) ?_
    refine lv_iconst (v := 1) hx hb dX5_tune_23 (by decide) ?_
    obtain ⟨z3, hz3, hF⟩ := bnd hF
    refine inI (runV C0 hlo hK hZ hW hS (kX5_fail l lo g h _ 1  _ _ hz3) wCO_X5_fail wML_X5_52 wIM_X5_fail wSE_X5_X5_fail wIN_X5 hdX5_fail ⟨Nat.le_of_ble_eq_true rfl, Nat.le_of_ble_eq_true rfl⟩ (recvK hK hW (al20 h 20 (by decide)) (ct20 0) rfl) rfl hl.1 rfl (Nat.le_of_ble_eq_true rfl) dX5_tune_24 ⟨Nat.le_of_ble_eq_true rfl, Nat.le_of_ble_eq_true rfl⟩) hS (fun H locs hW hS => ?_)
    cases hF
    exact retI C0 hr hlk hW hS dX5_tune_27
  · rw [if_neg c2] at hF
    refine lv_iload_n hx hb dX5_tune_13 rfl (lv_at hl 2 rfl) ?_
    refine lv_iconst (v := 0) hx hb dX5_tune_14 (by decide) ?_
    refine lv_iconst (v := 5) hx hb dX5_tune_15 (by decide) ?_
    obtain ⟨z4, hz4, hF⟩ := bnd hF
    refine inI (runS C0 hlo hK hZ hW hS (kX5_isIn l lo g h _ a2 0 5  _ _ hz4) wCO_X5_isIn wML_X5_45 wST_X5_isIn wIN_X5 hdsX5_isIn ⟨Nat.le_of_ble_eq_true rfl, Nat.le_of_ble_eq_true rfl⟩ rfl hl.1 rfl (Nat.le_of_ble_eq_true rfl) dX5_tune_16 ⟨Nat.le_of_ble_eq_true rfl, Nat.le_of_ble_eq_true rfl⟩) hS (fun H locs hW hS => ?_)
    refine lv_if_ne (tgt := 28) hx hb dX5_tune_19 (by decide) (fun c5 => ?_) (fun c5 => ?_)
    · rw [if_neg c5] at hF
      refine lv_iload_n hx hb dX5_tune_28 rfl (lv_at hl 3 rfl) ?_
      refine lv_iconst (v := 0) hx hb dX5_tune_29 (by decide) ?_
      refine lv_bipush (v := 87) hx hb dX5_tune_30 (by decide) ?_
      obtain ⟨z6, hz6, hF⟩ := bnd hF
      refine inI (runS C0 hlo hK hZ hW hS (kX5_isIn l lo g h _ a3 0 87  _ _ hz6) wCO_X5_isIn wML_X5_45 wST_X5_isIn wIN_X5 hdsX5_isIn ⟨Nat.le_of_ble_eq_true rfl, Nat.le_of_ble_eq_true rfl⟩ rfl hl.1 rfl (Nat.le_of_ble_eq_true rfl) dX5_tune_32 ⟨Nat.le_of_ble_eq_true rfl, Nat.le_of_ble_eq_true rfl⟩) hS (fun H locs hW hS => ?_)
      refine lv_if_ne (tgt := 44) hx hb dX5_tune_35 (by decide) (fun c7 => ?_) (fun c7 => ?_)
      · rw [if_neg c7] at hF
        refine lv_aload_n hx hb dX5_tune_44 rfl (lv_at hl 0 rfl) ?_
        refine get20 C0 hK hW 0 (al20 h 20 (by decide)) 8 (by decide) wFL_X5_23 rfl rfl dX5_tune_45 ?_
        refine lv_bipush (v := 6) hx hb dX5_tune_48 (by decide) ?_
        refine lv_iload_n hx hb dX5_tune_50 rfl (lv_at hl 1 rfl) ?_
        refine lv_imul hx hb dX5_tune_51 ?_
        refine lv_iload_n hx hb dX5_tune_52 rfl (lv_at hl 2 rfl) ?_
        refine lv_iadd hx hb dX5_tune_53 ?_
        obtain ⟨hg, hF⟩ := grd hF
        refine ald C0 hK hW 25 0 (al20 h 25 (by decide)) (by decide) hg dX5_tune_54 ?_
        refine lv_istore (lv' := [(4, .int (z6.2.1 25 0 ((6 * a1) + a2).toNatClampNeg)), (0, .ref (h.2.2 20 0)), (1, .int a1), (2, .int a2), (3, .int a3)]) hx hb dX5_tune_55 hl (by decide) rfl (fun ls hl => ?_)
        refine lv_aload_n hx hb dX5_tune_57 rfl (lv_at hl 1 rfl) ?_
        refine get20 C0 hK hW 0 (al20 h 20 (by decide)) 8 (by decide) wFL_X5_23 rfl rfl dX5_tune_58 ?_
        refine lv_bipush (v := 6) hx hb dX5_tune_61 (by decide) ?_
        refine lv_iload_n hx hb dX5_tune_63 rfl (lv_at hl 2 rfl) ?_
        refine lv_imul hx hb dX5_tune_64 ?_
        refine lv_iload_n hx hb dX5_tune_65 rfl (lv_at hl 3 rfl) ?_
        refine lv_iadd hx hb dX5_tune_66 ?_
        refine lv_iload_n hx hb dX5_tune_67 rfl (lv_at hl 4 rfl) ?_
        obtain ⟨hg, hF⟩ := grd hF
        refine ast C0 hK hW hS 25 0 (al20 h 25 (by decide)) (by decide) hg dX5_tune_68 (fun H locs hW hS => ?_)
        refine lv_iload hx hb dX5_tune_69 (lv_at hl 0 rfl) ?_
        cases hF
        exact retI C0 hr hlk hW hS dX5_tune_71
      · rw [if_pos c7] at hF
        refine lv_aload_n hx hb dX5_tune_38 rfl (lv_at hl 0 rfl) ?_
        refine lv_iconst (v := 2) hx hb dX5_tune_39 (by decide) ?_
        obtain ⟨z8, hz8, hF⟩ := bnd hF
        refine inI (runV C0 hlo hK hZ hW hS (kX5_fail l lo g h _ 2  _ _ hz8) wCO_X5_fail wML_X5_52 wIM_X5_fail wSE_X5_X5_fail wIN_X5 hdX5_fail ⟨Nat.le_of_ble_eq_true rfl, Nat.le_of_ble_eq_true rfl⟩ (recvK hK hW (al20 h 20 (by decide)) (ct20 0) rfl) rfl hl.1 rfl (Nat.le_of_ble_eq_true rfl) dX5_tune_40 ⟨Nat.le_of_ble_eq_true rfl, Nat.le_of_ble_eq_true rfl⟩) hS (fun H locs hW hS => ?_)
        cases hF
        exact retI C0 hr hlk hW hS dX5_tune_43
    · rw [if_pos c5] at hF
      refine lv_aload_n hx hb dX5_tune_22 rfl (lv_at hl 0 rfl) ?_
      refine lv_iconst (v := 1) hx hb dX5_tune_23 (by decide) ?_
      obtain ⟨z9, hz9, hF⟩ := bnd hF
      refine inI (runV C0 hlo hK hZ hW hS (kX5_fail l lo g h _ 1  _ _ hz9) wCO_X5_fail wML_X5_52 wIM_X5_fail wSE_X5_X5_fail wIN_X5 hdX5_fail ⟨Nat.le_of_ble_eq_true rfl, Nat.le_of_ble_eq_true rfl⟩ (recvK hK hW (al20 h 20 (by decide)) (ct20 0) rfl) rfl hl.1 rfl (Nat.le_of_ble_eq_true rfl) dX5_tune_24 ⟨Nat.le_of_ble_eq_true rfl, Nat.le_of_ble_eq_true rfl⟩) hS (fun H locs hW hS => ?_)
      cases hF
      exact retI C0 hr hlk hW hS dX5_tune_27
theorem hdX5_point : yX5_point.cls = RX5 ∧ yX5_point.cls ≠ "java/lang/invoke/MethodHandle" ∧ yX5_point.cls ≠ "java/lang/invoke/VarHandle" ∧ (parseMethodDescriptor yX5_point.desc).map (fun d => d.parameters.length) = some 4 := by decide +kernel
def FX5_point (ns nb : Nat) (σ : Sg) (a1 : Int32) (a2 : Int32) (a3 : Int32) (a4 : Int32) : Option (Int32 × Sg) :=
  (FX5_isBird ns nb (sI σ 20 0 0 0) a1).bind fun z1 => if z1.1 = 0 then ((FX5_fail ns nb z1.2 1).bind fun z3 => some (z3.1, z3.2)) else ((FX5_isIn ns nb z1.2 a2 0 2).bind fun z4 => if z4.1 = 0 then ((FX5_fail ns nb z4.2 1).bind fun z22 => some (z22.1, z22.2)) else ((FX5_get ns nb z4.2 a1 2).bind fun z6 => (FX5_isIn ns nb z6.2 a3 0 (z6.1 - 1)).bind fun z7 => if z7.1 = 0 then ((FX5_fail ns nb z7.2 2).bind fun z9 => some (z9.1, z9.2)) else ((FX5_isIn ns nb z7.2 a4 (-1) 100).bind fun z10 => if z10.1 = 0 then ((FX5_fail ns nb z10.2 2).bind fun z21 => some (z21.1, z21.2)) else ((FX5_cam ns nb z10.2 a1 a2).bind fun z12 => if ((z12.1 + a3) < 0 ∨ 2304 ≤ (z12.1 + a3).toNatClampNeg) then none else (if (z12.2.1 26 0 (z12.1 + a3).toNatClampNeg) = (-1) then (if a4 = (-1) then ((FX5_fail ns nb z12.2 3).bind fun z16 => some (z16.1, z16.2)) else ((FX5_pointsOf ns nb z12.2 a1 a2).bind fun z17 => if z17.1 = 8 then ((FX5_fail ns nb z17.2 3).bind fun z20 => some (z20.1, z20.2)) else (if ((z12.1 + a3) < 0 ∨ 2304 ≤ (z12.1 + a3).toNatClampNeg) then none else ((FX5_pointsOf ns nb (sI z17.2 26 0 (z12.1 + a3).toNatClampNeg a4) a1 a2).bind fun z19 => some (z19.1, z19.2))))) else (if ((z12.1 + a3) < 0 ∨ 2304 ≤ (z12.1 + a3).toNatClampNeg) then none else ((FX5_pointsOf ns nb (sI z12.2 26 0 (z12.1 + a3).toNatClampNeg a4) a1 a2).bind fun z14 => some (z14.1, z14.2))))))))
set_option maxHeartbeats 4000000 in
set_option maxRecDepth 100000 in
theorem kX5_point (l : Launch) (lo : Nat) (g : Gx) (h : Sh) (σ : Sg) (a1 : Int32) (a2 : Int32) (a3 : Int32) (a4 : Int32)  (r : Int32) (σ1 : Sg) (hF : FX5_point h.1 h.2.1 σ a1 a2 a3 a4 = some (r, σ1)) : MI l yX5_point (ws_ yX5_point cX5_point 6 (some .int)) 2 46 0 0 lo g h [.ref (h.2.2 20 0), .int a1, .int a2, .int a3, .int a4] σ r σ1 := by
  refine ofB (own := RX5) (by decide +kernel) rfl (fun p e s m below meth c C0 hr hlk hlo hK hZ hW hS ls hl => ?_) (Nat.le_of_ble_eq_true rfl)
  have hx := C0.1
  have hb := C0.2.1
  have hl : lv_has ls 6 [(0, .ref (h.2.2 20 0)), (1, .int a1), (2, .int a2), (3, .int a3), (4, .int a4)] := hl
  unfold FX5_point at hF
  refine lv_aload_n hx hb dX5_point_0 rfl (lv_at hl 0 rfl) ?_
  refine lv_iconst (v := 0) hx hb dX5_point_1 (by decide) ?_
  refine put20_0 C0 hK hW hS 0 (al20 h 20 (by decide)) wFL_X5_38 dX5_point_2 (fun H locs hW hS => ?_)
  refine lv_aload_n hx hb dX5_point_5 rfl (lv_at hl 0 rfl) ?_
  refine lv_iload_n hx hb dX5_point_6 rfl (lv_at hl 1 rfl) ?_
  obtain ⟨z1, hz1, hF⟩ := bnd hF
  refine inI (runV C0 hlo hK hZ hW hS (kX5_isBird l lo g h _ a1  _ _ hz1) wCO_X5_isBird wML_X5_96 wIM_X5_isBird wSE_X5_X5_isBird wIN_X5 hdX5_isBird ⟨Nat.le_of_ble_eq_true rfl, Nat.le_of_ble_eq_true rfl⟩ (recvK hK hW (al20 h 20 (by decide)) (ct20 0) rfl) rfl hl.1 rfl (Nat.le_of_ble_eq_true rfl) dX5_point_7 ⟨Nat.le_of_ble_eq_true rfl, Nat.le_of_ble_eq_true rfl⟩) hS (fun H locs hW hS => ?_)
  refine lv_if_eq (tgt := 22) hx hb dX5_point_10 (by decide) (fun c2 => ?_) (fun c2 => ?_)
  · rw [if_pos c2] at hF
    refine lv_aload_n hx hb dX5_point_22 rfl (lv_at hl 0 rfl) ?_
    refine lv_iconst (v := 1) hx hb dX5_point_23 (by decide) ?_
    obtain ⟨z3, hz3, hF⟩ := bnd hF
    refine inI (runV C0 hlo hK hZ hW hS (kX5_fail l lo g h _ 1  _ _ hz3) wCO_X5_fail wML_X5_52 wIM_X5_fail wSE_X5_X5_fail wIN_X5 hdX5_fail ⟨Nat.le_of_ble_eq_true rfl, Nat.le_of_ble_eq_true rfl⟩ (recvK hK hW (al20 h 20 (by decide)) (ct20 0) rfl) rfl hl.1 rfl (Nat.le_of_ble_eq_true rfl) dX5_point_24 ⟨Nat.le_of_ble_eq_true rfl, Nat.le_of_ble_eq_true rfl⟩) hS (fun H locs hW hS => ?_)
    cases hF
    exact retI C0 hr hlk hW hS dX5_point_27
  · rw [if_neg c2] at hF
    refine lv_iload_n hx hb dX5_point_13 rfl (lv_at hl 2 rfl) ?_
    refine lv_iconst (v := 0) hx hb dX5_point_14 (by decide) ?_
    refine lv_iconst (v := 2) hx hb dX5_point_15 (by decide) ?_
    obtain ⟨z4, hz4, hF⟩ := bnd hF
    refine inI (runS C0 hlo hK hZ hW hS (kX5_isIn l lo g h _ a2 0 2  _ _ hz4) wCO_X5_isIn wML_X5_45 wST_X5_isIn wIN_X5 hdsX5_isIn ⟨Nat.le_of_ble_eq_true rfl, Nat.le_of_ble_eq_true rfl⟩ rfl hl.1 rfl (Nat.le_of_ble_eq_true rfl) dX5_point_16 ⟨Nat.le_of_ble_eq_true rfl, Nat.le_of_ble_eq_true rfl⟩) hS (fun H locs hW hS => ?_)
    refine lv_if_ne (tgt := 28) hx hb dX5_point_19 (by decide) (fun c5 => ?_) (fun c5 => ?_)
    · rw [if_neg c5] at hF
      refine lv_iload_n hx hb dX5_point_28 rfl (lv_at hl 3 rfl) ?_
      refine lv_iconst (v := 0) hx hb dX5_point_29 (by decide) ?_
      refine lv_aload_n hx hb dX5_point_30 rfl (lv_at hl 0 rfl) ?_
      refine lv_iload_n hx hb dX5_point_31 rfl (lv_at hl 1 rfl) ?_
      refine lv_iconst (v := 2) hx hb dX5_point_32 (by decide) ?_
      obtain ⟨z6, hz6, hF⟩ := bnd hF
      refine inI (runV C0 hlo hK hZ hW hS (kX5_get l lo g h _ a1 2  _ _ hz6) wCO_X5_get wML_X5_77 wIM_X5_get wSE_X5_X5_get wIN_X5 hdX5_get ⟨Nat.le_of_ble_eq_true rfl, Nat.le_of_ble_eq_true rfl⟩ (recvK hK hW (al20 h 20 (by decide)) (ct20 0) rfl) rfl hl.1 rfl (Nat.le_of_ble_eq_true rfl) dX5_point_33 ⟨Nat.le_of_ble_eq_true rfl, Nat.le_of_ble_eq_true rfl⟩) hS (fun H locs hW hS => ?_)
      refine lv_iconst (v := 1) hx hb dX5_point_36 (by decide) ?_
      refine lv_isub hx hb dX5_point_37 ?_
      obtain ⟨z7, hz7, hF⟩ := bnd hF
      refine inI (runS C0 hlo hK hZ hW hS (kX5_isIn l lo g h _ a3 0 (z6.1 - 1)  _ _ hz7) wCO_X5_isIn wML_X5_45 wST_X5_isIn wIN_X5 hdsX5_isIn ⟨Nat.le_of_ble_eq_true rfl, Nat.le_of_ble_eq_true rfl⟩ rfl hl.1 rfl (Nat.le_of_ble_eq_true rfl) dX5_point_38 ⟨Nat.le_of_ble_eq_true rfl, Nat.le_of_ble_eq_true rfl⟩) hS (fun H locs hW hS => ?_)
      refine lv_if_eq (tgt := 55) hx hb dX5_point_41 (by decide) (fun c8 => ?_) (fun c8 => ?_)
      · rw [if_pos c8] at hF
        refine lv_aload_n hx hb dX5_point_55 rfl (lv_at hl 0 rfl) ?_
        refine lv_iconst (v := 2) hx hb dX5_point_56 (by decide) ?_
        obtain ⟨z9, hz9, hF⟩ := bnd hF
        refine inI (runV C0 hlo hK hZ hW hS (kX5_fail l lo g h _ 2  _ _ hz9) wCO_X5_fail wML_X5_52 wIM_X5_fail wSE_X5_X5_fail wIN_X5 hdX5_fail ⟨Nat.le_of_ble_eq_true rfl, Nat.le_of_ble_eq_true rfl⟩ (recvK hK hW (al20 h 20 (by decide)) (ct20 0) rfl) rfl hl.1 rfl (Nat.le_of_ble_eq_true rfl) dX5_point_57 ⟨Nat.le_of_ble_eq_true rfl, Nat.le_of_ble_eq_true rfl⟩) hS (fun H locs hW hS => ?_)
        cases hF
        exact retI C0 hr hlk hW hS dX5_point_60
      · rw [if_neg c8] at hF
        refine lv_iload hx hb dX5_point_44 (lv_at hl 4 rfl) ?_
        refine lv_iconst (v := (-1)) hx hb dX5_point_46 (by decide) ?_
        refine lv_bipush (v := 100) hx hb dX5_point_47 (by decide) ?_
        obtain ⟨z10, hz10, hF⟩ := bnd hF
        refine inI (runS C0 hlo hK hZ hW hS (kX5_isIn l lo g h _ a4 (-1) 100  _ _ hz10) wCO_X5_isIn wML_X5_45 wST_X5_isIn wIN_X5 hdsX5_isIn ⟨Nat.le_of_ble_eq_true rfl, Nat.le_of_ble_eq_true rfl⟩ rfl hl.1 rfl (Nat.le_of_ble_eq_true rfl) dX5_point_49 ⟨Nat.le_of_ble_eq_true rfl, Nat.le_of_ble_eq_true rfl⟩) hS (fun H locs hW hS => ?_)
        refine lv_if_ne (tgt := 61) hx hb dX5_point_52 (by decide) (fun c11 => ?_) (fun c11 => ?_)
        · rw [if_neg c11] at hF
          refine lv_iload_n hx hb dX5_point_61 rfl (lv_at hl 1 rfl) ?_
          refine lv_iload_n hx hb dX5_point_62 rfl (lv_at hl 2 rfl) ?_
          obtain ⟨z12, hz12, hF⟩ := bnd hF
          refine inI (runS C0 hlo hK hZ hW hS (kX5_cam l lo g h _ a1 a2  _ _ hz12) wCO_X5_cam wML_X5_103 wST_X5_cam wIN_X5 hdsX5_cam ⟨Nat.le_of_ble_eq_true rfl, Nat.le_of_ble_eq_true rfl⟩ rfl hl.1 rfl (Nat.le_of_ble_eq_true rfl) dX5_point_63 ⟨Nat.le_of_ble_eq_true rfl, Nat.le_of_ble_eq_true rfl⟩) hS (fun H locs hW hS => ?_)
          refine lv_iload_n hx hb dX5_point_66 rfl (lv_at hl 3 rfl) ?_
          refine lv_iadd hx hb dX5_point_67 ?_
          refine lv_istore (lv' := [(5, .int (z12.1 + a3)), (0, .ref (h.2.2 20 0)), (1, .int a1), (2, .int a2), (3, .int a3), (4, .int a4)]) hx hb dX5_point_68 hl (by decide) rfl (fun ls hl => ?_)
          refine lv_aload_n hx hb dX5_point_70 rfl (lv_at hl 1 rfl) ?_
          refine get20 C0 hK hW 0 (al20 h 20 (by decide)) 9 (by decide) wFL_X5_26 rfl rfl dX5_point_71 ?_
          refine lv_iload hx hb dX5_point_74 (lv_at hl 0 rfl) ?_
          obtain ⟨hg, hF⟩ := grd hF
          refine ald C0 hK hW 26 0 (al20 h 26 (by decide)) (by decide) hg dX5_point_76 ?_
          refine lv_iconst (v := (-1)) hx hb dX5_point_77 (by decide) ?_
          refine lv_icmp_ne (tgt := 104) hx hb dX5_point_78 (by decide) (fun c13 => ?_) (fun c13 => ?_)
          · rw [if_neg c13] at hF
            refine lv_aload_n hx hb dX5_point_104 rfl (lv_at hl 1 rfl) ?_
            refine get20 C0 hK hW 0 (al20 h 20 (by decide)) 9 (by decide) wFL_X5_26 rfl rfl dX5_point_105 ?_
            refine lv_iload hx hb dX5_point_108 (lv_at hl 0 rfl) ?_
            refine lv_iload hx hb dX5_point_110 (lv_at hl 5 rfl) ?_
            obtain ⟨hg, hF⟩ := grd hF
            refine ast C0 hK hW hS 26 0 (al20 h 26 (by decide)) (by decide) hg dX5_point_112 (fun H locs hW hS => ?_)
            refine lv_aload_n hx hb dX5_point_113 rfl (lv_at hl 1 rfl) ?_
            refine lv_iload_n hx hb dX5_point_114 rfl (lv_at hl 2 rfl) ?_
            refine lv_iload_n hx hb dX5_point_115 rfl (lv_at hl 3 rfl) ?_
            obtain ⟨z14, hz14, hF⟩ := bnd hF
            refine inI (runV C0 hlo hK hZ hW hS (kX5_pointsOf l lo g h _ a1 a2  _ _ hz14) wCO_X5_pointsOf wML_X5_106 wIM_X5_pointsOf wSE_X5_X5_pointsOf wIN_X5 hdX5_pointsOf ⟨Nat.le_of_ble_eq_true rfl, Nat.le_of_ble_eq_true rfl⟩ (recvK hK hW (al20 h 20 (by decide)) (ct20 0) rfl) rfl hl.1 rfl (Nat.le_of_ble_eq_true rfl) dX5_point_116 ⟨Nat.le_of_ble_eq_true rfl, Nat.le_of_ble_eq_true rfl⟩) hS (fun H locs hW hS => ?_)
            cases hF
            exact retI C0 hr hlk hW hS dX5_point_119
          · rw [if_pos c13] at hF
            refine lv_iload hx hb dX5_point_81 (lv_at hl 5 rfl) ?_
            refine lv_iconst (v := (-1)) hx hb dX5_point_83 (by decide) ?_
            refine lv_icmp_eq (tgt := 98) hx hb dX5_point_84 (by decide) (fun c15 => ?_) (fun c15 => ?_)
            · rw [if_pos c15] at hF
              refine lv_aload_n hx hb dX5_point_98 rfl (lv_at hl 1 rfl) ?_
              refine lv_iconst (v := 3) hx hb dX5_point_99 (by decide) ?_
              obtain ⟨z16, hz16, hF⟩ := bnd hF
              refine inI (runV C0 hlo hK hZ hW hS (kX5_fail l lo g h _ 3  _ _ hz16) wCO_X5_fail wML_X5_52 wIM_X5_fail wSE_X5_X5_fail wIN_X5 hdX5_fail ⟨Nat.le_of_ble_eq_true rfl, Nat.le_of_ble_eq_true rfl⟩ (recvK hK hW (al20 h 20 (by decide)) (ct20 0) rfl) rfl hl.1 rfl (Nat.le_of_ble_eq_true rfl) dX5_point_100 ⟨Nat.le_of_ble_eq_true rfl, Nat.le_of_ble_eq_true rfl⟩) hS (fun H locs hW hS => ?_)
              cases hF
              exact retI C0 hr hlk hW hS dX5_point_103
            · rw [if_neg c15] at hF
              refine lv_aload_n hx hb dX5_point_87 rfl (lv_at hl 1 rfl) ?_
              refine lv_iload_n hx hb dX5_point_88 rfl (lv_at hl 2 rfl) ?_
              refine lv_iload_n hx hb dX5_point_89 rfl (lv_at hl 3 rfl) ?_
              obtain ⟨z17, hz17, hF⟩ := bnd hF
              refine inI (runV C0 hlo hK hZ hW hS (kX5_pointsOf l lo g h _ a1 a2  _ _ hz17) wCO_X5_pointsOf wML_X5_106 wIM_X5_pointsOf wSE_X5_X5_pointsOf wIN_X5 hdX5_pointsOf ⟨Nat.le_of_ble_eq_true rfl, Nat.le_of_ble_eq_true rfl⟩ (recvK hK hW (al20 h 20 (by decide)) (ct20 0) rfl) rfl hl.1 rfl (Nat.le_of_ble_eq_true rfl) dX5_point_90 ⟨Nat.le_of_ble_eq_true rfl, Nat.le_of_ble_eq_true rfl⟩) hS (fun H locs hW hS => ?_)
              refine lv_bipush (v := 8) hx hb dX5_point_93 (by decide) ?_
              refine lv_icmp_ne (tgt := 104) hx hb dX5_point_95 (by decide) (fun c18 => ?_) (fun c18 => ?_)
              · rw [if_neg c18] at hF
                refine lv_aload_n hx hb dX5_point_104 rfl (lv_at hl 1 rfl) ?_
                refine get20 C0 hK hW 0 (al20 h 20 (by decide)) 9 (by decide) wFL_X5_26 rfl rfl dX5_point_105 ?_
                refine lv_iload hx hb dX5_point_108 (lv_at hl 0 rfl) ?_
                refine lv_iload hx hb dX5_point_110 (lv_at hl 5 rfl) ?_
                obtain ⟨hg, hF⟩ := grd hF
                refine ast C0 hK hW hS 26 0 (al20 h 26 (by decide)) (by decide) hg dX5_point_112 (fun H locs hW hS => ?_)
                refine lv_aload_n hx hb dX5_point_113 rfl (lv_at hl 1 rfl) ?_
                refine lv_iload_n hx hb dX5_point_114 rfl (lv_at hl 2 rfl) ?_
                refine lv_iload_n hx hb dX5_point_115 rfl (lv_at hl 3 rfl) ?_
                obtain ⟨z19, hz19, hF⟩ := bnd hF
                refine inI (runV C0 hlo hK hZ hW hS (kX5_pointsOf l lo g h _ a1 a2  _ _ hz19) wCO_X5_pointsOf wML_X5_106 wIM_X5_pointsOf wSE_X5_X5_pointsOf wIN_X5 hdX5_pointsOf ⟨Nat.le_of_ble_eq_true rfl, Nat.le_of_ble_eq_true rfl⟩ (recvK hK hW (al20 h 20 (by decide)) (ct20 0) rfl) rfl hl.1 rfl (Nat.le_of_ble_eq_true rfl) dX5_point_116 ⟨Nat.le_of_ble_eq_true rfl, Nat.le_of_ble_eq_true rfl⟩) hS (fun H locs hW hS => ?_)
                cases hF
                exact retI C0 hr hlk hW hS dX5_point_119
              · rw [if_pos c18] at hF
                refine lv_aload_n hx hb dX5_point_98 rfl (lv_at hl 1 rfl) ?_
                refine lv_iconst (v := 3) hx hb dX5_point_99 (by decide) ?_
                obtain ⟨z20, hz20, hF⟩ := bnd hF
                refine inI (runV C0 hlo hK hZ hW hS (kX5_fail l lo g h _ 3  _ _ hz20) wCO_X5_fail wML_X5_52 wIM_X5_fail wSE_X5_X5_fail wIN_X5 hdX5_fail ⟨Nat.le_of_ble_eq_true rfl, Nat.le_of_ble_eq_true rfl⟩ (recvK hK hW (al20 h 20 (by decide)) (ct20 0) rfl) rfl hl.1 rfl (Nat.le_of_ble_eq_true rfl) dX5_point_100 ⟨Nat.le_of_ble_eq_true rfl, Nat.le_of_ble_eq_true rfl⟩) hS (fun H locs hW hS => ?_)
                cases hF
                exact retI C0 hr hlk hW hS dX5_point_103
        · rw [if_pos c11] at hF
          refine lv_aload_n hx hb dX5_point_55 rfl (lv_at hl 0 rfl) ?_
          refine lv_iconst (v := 2) hx hb dX5_point_56 (by decide) ?_
          obtain ⟨z21, hz21, hF⟩ := bnd hF
          refine inI (runV C0 hlo hK hZ hW hS (kX5_fail l lo g h _ 2  _ _ hz21) wCO_X5_fail wML_X5_52 wIM_X5_fail wSE_X5_X5_fail wIN_X5 hdX5_fail ⟨Nat.le_of_ble_eq_true rfl, Nat.le_of_ble_eq_true rfl⟩ (recvK hK hW (al20 h 20 (by decide)) (ct20 0) rfl) rfl hl.1 rfl (Nat.le_of_ble_eq_true rfl) dX5_point_57 ⟨Nat.le_of_ble_eq_true rfl, Nat.le_of_ble_eq_true rfl⟩) hS (fun H locs hW hS => ?_)
          cases hF
          exact retI C0 hr hlk hW hS dX5_point_60
    · rw [if_pos c5] at hF
      refine lv_aload_n hx hb dX5_point_22 rfl (lv_at hl 0 rfl) ?_
      refine lv_iconst (v := 1) hx hb dX5_point_23 (by decide) ?_
      obtain ⟨z22, hz22, hF⟩ := bnd hF
      refine inI (runV C0 hlo hK hZ hW hS (kX5_fail l lo g h _ 1  _ _ hz22) wCO_X5_fail wML_X5_52 wIM_X5_fail wSE_X5_X5_fail wIN_X5 hdX5_fail ⟨Nat.le_of_ble_eq_true rfl, Nat.le_of_ble_eq_true rfl⟩ (recvK hK hW (al20 h 20 (by decide)) (ct20 0) rfl) rfl hl.1 rfl (Nat.le_of_ble_eq_true rfl) dX5_point_24 ⟨Nat.le_of_ble_eq_true rfl, Nat.le_of_ble_eq_true rfl⟩) hS (fun H locs hW hS => ?_)
      cases hF
      exact retI C0 hr hlk hW hS dX5_point_27
theorem hdX5_bird : yX5_bird.cls = RX5 ∧ yX5_bird.cls ≠ "java/lang/invoke/MethodHandle" ∧ yX5_bird.cls ≠ "java/lang/invoke/VarHandle" ∧ (parseMethodDescriptor yX5_bird.desc).map (fun d => d.parameters.length) = some 2 := by decide +kernel
def FX5_bird (ns nb : Nat) (σ : Sg) (a1 : Int32) (a2 : Int32) : Option (Int32 × Sg) :=
  (FX5_isBird ns nb (sI σ 20 0 0 0) a1).bind fun z1 => if z1.1 = 0 then ((FX5_fail ns nb z1.2 1).bind fun z3 => some (z3.1, z3.2)) else ((FX5_isIn ns nb z1.2 a2 0 9).bind fun z4 => if z4.1 = 0 then ((FX5_fail ns nb z4.2 1).bind fun z6 => some (z6.1, z6.2)) else ((FX5_get ns nb z4.2 a1 a2).bind fun z7 => some (z7.1, z7.2)))
set_option maxHeartbeats 4000000 in
set_option maxRecDepth 100000 in
theorem kX5_bird (l : Launch) (lo : Nat) (g : Gx) (h : Sh) (σ : Sg) (a1 : Int32) (a2 : Int32)  (r : Int32) (σ1 : Sg) (hF : FX5_bird h.1 h.2.1 σ a1 a2 = some (r, σ1)) : MI l yX5_bird (ws_ yX5_bird cX5_bird 3 (some .int)) 2 43 0 0 lo g h [.ref (h.2.2 20 0), .int a1, .int a2] σ r σ1 := by
  refine ofB (own := RX5) (by decide +kernel) rfl (fun p e s m below meth c C0 hr hlk hlo hK hZ hW hS ls hl => ?_) (Nat.le_of_ble_eq_true rfl)
  have hx := C0.1
  have hb := C0.2.1
  have hl : lv_has ls 3 [(0, .ref (h.2.2 20 0)), (1, .int a1), (2, .int a2)] := hl
  unfold FX5_bird at hF
  refine lv_aload_n hx hb dX5_bird_0 rfl (lv_at hl 0 rfl) ?_
  refine lv_iconst (v := 0) hx hb dX5_bird_1 (by decide) ?_
  refine put20_0 C0 hK hW hS 0 (al20 h 20 (by decide)) wFL_X5_38 dX5_bird_2 (fun H locs hW hS => ?_)
  refine lv_aload_n hx hb dX5_bird_5 rfl (lv_at hl 0 rfl) ?_
  refine lv_iload_n hx hb dX5_bird_6 rfl (lv_at hl 1 rfl) ?_
  obtain ⟨z1, hz1, hF⟩ := bnd hF
  refine inI (runV C0 hlo hK hZ hW hS (kX5_isBird l lo g h _ a1  _ _ hz1) wCO_X5_isBird wML_X5_96 wIM_X5_isBird wSE_X5_X5_isBird wIN_X5 hdX5_isBird ⟨Nat.le_of_ble_eq_true rfl, Nat.le_of_ble_eq_true rfl⟩ (recvK hK hW (al20 h 20 (by decide)) (ct20 0) rfl) rfl hl.1 rfl (Nat.le_of_ble_eq_true rfl) dX5_bird_7 ⟨Nat.le_of_ble_eq_true rfl, Nat.le_of_ble_eq_true rfl⟩) hS (fun H locs hW hS => ?_)
  refine lv_if_eq (tgt := 32) hx hb dX5_bird_10 (by decide) (fun c2 => ?_) (fun c2 => ?_)
  · rw [if_pos c2] at hF
    refine lv_aload_n hx hb dX5_bird_32 rfl (lv_at hl 0 rfl) ?_
    refine lv_iconst (v := 1) hx hb dX5_bird_33 (by decide) ?_
    obtain ⟨z3, hz3, hF⟩ := bnd hF
    refine inI (runV C0 hlo hK hZ hW hS (kX5_fail l lo g h _ 1  _ _ hz3) wCO_X5_fail wML_X5_52 wIM_X5_fail wSE_X5_X5_fail wIN_X5 hdX5_fail ⟨Nat.le_of_ble_eq_true rfl, Nat.le_of_ble_eq_true rfl⟩ (recvK hK hW (al20 h 20 (by decide)) (ct20 0) rfl) rfl hl.1 rfl (Nat.le_of_ble_eq_true rfl) dX5_bird_34 ⟨Nat.le_of_ble_eq_true rfl, Nat.le_of_ble_eq_true rfl⟩) hS (fun H locs hW hS => ?_)
    cases hF
    exact retI C0 hr hlk hW hS dX5_bird_37
  · rw [if_neg c2] at hF
    refine lv_iload_n hx hb dX5_bird_13 rfl (lv_at hl 2 rfl) ?_
    refine lv_iconst (v := 0) hx hb dX5_bird_14 (by decide) ?_
    refine lv_bipush (v := 9) hx hb dX5_bird_15 (by decide) ?_
    obtain ⟨z4, hz4, hF⟩ := bnd hF
    refine inI (runS C0 hlo hK hZ hW hS (kX5_isIn l lo g h _ a2 0 9  _ _ hz4) wCO_X5_isIn wML_X5_45 wST_X5_isIn wIN_X5 hdsX5_isIn ⟨Nat.le_of_ble_eq_true rfl, Nat.le_of_ble_eq_true rfl⟩ rfl hl.1 rfl (Nat.le_of_ble_eq_true rfl) dX5_bird_17 ⟨Nat.le_of_ble_eq_true rfl, Nat.le_of_ble_eq_true rfl⟩) hS (fun H locs hW hS => ?_)
    refine lv_if_eq (tgt := 32) hx hb dX5_bird_20 (by decide) (fun c5 => ?_) (fun c5 => ?_)
    · rw [if_pos c5] at hF
      refine lv_aload_n hx hb dX5_bird_32 rfl (lv_at hl 0 rfl) ?_
      refine lv_iconst (v := 1) hx hb dX5_bird_33 (by decide) ?_
      obtain ⟨z6, hz6, hF⟩ := bnd hF
      refine inI (runV C0 hlo hK hZ hW hS (kX5_fail l lo g h _ 1  _ _ hz6) wCO_X5_fail wML_X5_52 wIM_X5_fail wSE_X5_X5_fail wIN_X5 hdX5_fail ⟨Nat.le_of_ble_eq_true rfl, Nat.le_of_ble_eq_true rfl⟩ (recvK hK hW (al20 h 20 (by decide)) (ct20 0) rfl) rfl hl.1 rfl (Nat.le_of_ble_eq_true rfl) dX5_bird_34 ⟨Nat.le_of_ble_eq_true rfl, Nat.le_of_ble_eq_true rfl⟩) hS (fun H locs hW hS => ?_)
      cases hF
      exact retI C0 hr hlk hW hS dX5_bird_37
    · rw [if_neg c5] at hF
      refine lv_aload_n hx hb dX5_bird_23 rfl (lv_at hl 0 rfl) ?_
      refine lv_iload_n hx hb dX5_bird_24 rfl (lv_at hl 1 rfl) ?_
      refine lv_iload_n hx hb dX5_bird_25 rfl (lv_at hl 2 rfl) ?_
      obtain ⟨z7, hz7, hF⟩ := bnd hF
      refine inI (runV C0 hlo hK hZ hW hS (kX5_get l lo g h _ a1 a2  _ _ hz7) wCO_X5_get wML_X5_77 wIM_X5_get wSE_X5_X5_get wIN_X5 hdX5_get ⟨Nat.le_of_ble_eq_true rfl, Nat.le_of_ble_eq_true rfl⟩ (recvK hK hW (al20 h 20 (by decide)) (ct20 0) rfl) rfl hl.1 rfl (Nat.le_of_ble_eq_true rfl) dX5_bird_26 ⟨Nat.le_of_ble_eq_true rfl, Nat.le_of_ble_eq_true rfl⟩) hS (fun H locs hW hS => ?_)
      refine lv_goto (tgt := 37) hx hb dX5_bird_29 (by decide) ?_
      cases hF
      exact retI C0 hr hlk hW hS dX5_bird_37
theorem hdX5_lift : yX5_lift.cls = RX5 ∧ yX5_lift.cls ≠ "java/lang/invoke/MethodHandle" ∧ yX5_lift.cls ≠ "java/lang/invoke/VarHandle" ∧ (parseMethodDescriptor yX5_lift.desc).map (fun d => d.parameters.length) = some 3 := by decide +kernel
def FX5_lift (ns nb : Nat) (σ : Sg) (a1 : Int32) (a2 : Int32) (a3 : Int32) : Option (Int32 × Sg) :=
  (FX5_isBird ns nb (sI σ 20 0 0 0) a1).bind fun z1 => if z1.1 = 0 then ((FX5_fail ns nb z1.2 1).bind fun z3 => some (z3.1, z3.2)) else ((FX5_isIn ns nb z1.2 a2 0 2).bind fun z4 => if z4.1 = 0 then ((FX5_fail ns nb z4.2 1).bind fun z14 => some (z14.1, z14.2)) else ((FX5_get ns nb z4.2 a1 2).bind fun z6 => (FX5_isIn ns nb z6.2 a3 (-1) (z6.1 - 1)).bind fun z7 => if z7.1 = 0 then ((FX5_fail ns nb z7.2 2).bind fun z13 => some (z13.1, z13.2)) else (if a3 = (-1) then ((FX5_get ns nb z7.2 a1 5).bind fun z11 => (FX5_liftAt ns nb z11.2 a1 a2 z11.1).bind fun z12 => some (z12.1, z12.2)) else ((FX5_liftAt ns nb z7.2 a1 a2 a3).bind fun z10 => some (z10.1, z10.2)))))
set_option maxHeartbeats 4000000 in
set_option maxRecDepth 100000 in
theorem kX5_lift (l : Launch) (lo : Nat) (g : Gx) (h : Sh) (σ : Sg) (a1 : Int32) (a2 : Int32) (a3 : Int32)  (r : Int32) (σ1 : Sg) (hF : FX5_lift h.1 h.2.1 σ a1 a2 a3 = some (r, σ1)) : MI l yX5_lift (ws_ yX5_lift cX5_lift 4 (some .int)) 2 51 0 0 lo g h [.ref (h.2.2 20 0), .int a1, .int a2, .int a3] σ r σ1 := by
  refine ofB (own := RX5) (by decide +kernel) rfl (fun p e s m below meth c C0 hr hlk hlo hK hZ hW hS ls hl => ?_) (Nat.le_of_ble_eq_true rfl)
  have hx := C0.1
  have hb := C0.2.1
  have hl : lv_has ls 4 [(0, .ref (h.2.2 20 0)), (1, .int a1), (2, .int a2), (3, .int a3)] := hl
  unfold FX5_lift at hF
  refine lv_aload_n hx hb dX5_lift_0 rfl (lv_at hl 0 rfl) ?_
  refine lv_iconst (v := 0) hx hb dX5_lift_1 (by decide) ?_
  refine put20_0 C0 hK hW hS 0 (al20 h 20 (by decide)) wFL_X5_38 dX5_lift_2 (fun H locs hW hS => ?_)
  refine lv_aload_n hx hb dX5_lift_5 rfl (lv_at hl 0 rfl) ?_
  refine lv_iload_n hx hb dX5_lift_6 rfl (lv_at hl 1 rfl) ?_
  obtain ⟨z1, hz1, hF⟩ := bnd hF
  refine inI (runV C0 hlo hK hZ hW hS (kX5_isBird l lo g h _ a1  _ _ hz1) wCO_X5_isBird wML_X5_96 wIM_X5_isBird wSE_X5_X5_isBird wIN_X5 hdX5_isBird ⟨Nat.le_of_ble_eq_true rfl, Nat.le_of_ble_eq_true rfl⟩ (recvK hK hW (al20 h 20 (by decide)) (ct20 0) rfl) rfl hl.1 rfl (Nat.le_of_ble_eq_true rfl) dX5_lift_7 ⟨Nat.le_of_ble_eq_true rfl, Nat.le_of_ble_eq_true rfl⟩) hS (fun H locs hW hS => ?_)
  refine lv_if_eq (tgt := 22) hx hb dX5_lift_10 (by decide) (fun c2 => ?_) (fun c2 => ?_)
  · rw [if_pos c2] at hF
    refine lv_aload_n hx hb dX5_lift_22 rfl (lv_at hl 0 rfl) ?_
    refine lv_iconst (v := 1) hx hb dX5_lift_23 (by decide) ?_
    obtain ⟨z3, hz3, hF⟩ := bnd hF
    refine inI (runV C0 hlo hK hZ hW hS (kX5_fail l lo g h _ 1  _ _ hz3) wCO_X5_fail wML_X5_52 wIM_X5_fail wSE_X5_X5_fail wIN_X5 hdX5_fail ⟨Nat.le_of_ble_eq_true rfl, Nat.le_of_ble_eq_true rfl⟩ (recvK hK hW (al20 h 20 (by decide)) (ct20 0) rfl) rfl hl.1 rfl (Nat.le_of_ble_eq_true rfl) dX5_lift_24 ⟨Nat.le_of_ble_eq_true rfl, Nat.le_of_ble_eq_true rfl⟩) hS (fun H locs hW hS => ?_)
    cases hF
    exact retI C0 hr hlk hW hS dX5_lift_27
  · rw [if_neg c2] at hF
    refine lv_iload_n hx hb dX5_lift_13 rfl (lv_at hl 2 rfl) ?_
    refine lv_iconst (v := 0) hx hb dX5_lift_14 (by decide) ?_
    refine lv_iconst (v := 2) hx hb dX5_lift_15 (by decide) ?_
    obtain ⟨z4, hz4, hF⟩ := bnd hF
    refine inI (runS C0 hlo hK hZ hW hS (kX5_isIn l lo g h _ a2 0 2  _ _ hz4) wCO_X5_isIn wML_X5_45 wST_X5_isIn wIN_X5 hdsX5_isIn ⟨Nat.le_of_ble_eq_true rfl, Nat.le_of_ble_eq_true rfl⟩ rfl hl.1 rfl (Nat.le_of_ble_eq_true rfl) dX5_lift_16 ⟨Nat.le_of_ble_eq_true rfl, Nat.le_of_ble_eq_true rfl⟩) hS (fun H locs hW hS => ?_)
    refine lv_if_ne (tgt := 28) hx hb dX5_lift_19 (by decide) (fun c5 => ?_) (fun c5 => ?_)
    · rw [if_neg c5] at hF
      refine lv_iload_n hx hb dX5_lift_28 rfl (lv_at hl 3 rfl) ?_
      refine lv_iconst (v := (-1)) hx hb dX5_lift_29 (by decide) ?_
      refine lv_aload_n hx hb dX5_lift_30 rfl (lv_at hl 0 rfl) ?_
      refine lv_iload_n hx hb dX5_lift_31 rfl (lv_at hl 1 rfl) ?_
      refine lv_iconst (v := 2) hx hb dX5_lift_32 (by decide) ?_
      obtain ⟨z6, hz6, hF⟩ := bnd hF
      refine inI (runV C0 hlo hK hZ hW hS (kX5_get l lo g h _ a1 2  _ _ hz6) wCO_X5_get wML_X5_77 wIM_X5_get wSE_X5_X5_get wIN_X5 hdX5_get ⟨Nat.le_of_ble_eq_true rfl, Nat.le_of_ble_eq_true rfl⟩ (recvK hK hW (al20 h 20 (by decide)) (ct20 0) rfl) rfl hl.1 rfl (Nat.le_of_ble_eq_true rfl) dX5_lift_33 ⟨Nat.le_of_ble_eq_true rfl, Nat.le_of_ble_eq_true rfl⟩) hS (fun H locs hW hS => ?_)
      refine lv_iconst (v := 1) hx hb dX5_lift_36 (by decide) ?_
      refine lv_isub hx hb dX5_lift_37 ?_
      obtain ⟨z7, hz7, hF⟩ := bnd hF
      refine inI (runS C0 hlo hK hZ hW hS (kX5_isIn l lo g h _ a3 (-1) (z6.1 - 1)  _ _ hz7) wCO_X5_isIn wML_X5_45 wST_X5_isIn wIN_X5 hdsX5_isIn ⟨Nat.le_of_ble_eq_true rfl, Nat.le_of_ble_eq_true rfl⟩ rfl hl.1 rfl (Nat.le_of_ble_eq_true rfl) dX5_lift_38 ⟨Nat.le_of_ble_eq_true rfl, Nat.le_of_ble_eq_true rfl⟩) hS (fun H locs hW hS => ?_)
      refine lv_if_ne (tgt := 50) hx hb dX5_lift_41 (by decide) (fun c8 => ?_) (fun c8 => ?_)
      · rw [if_neg c8] at hF
        refine lv_aload_n hx hb dX5_lift_50 rfl (lv_at hl 0 rfl) ?_
        refine lv_iload_n hx hb dX5_lift_51 rfl (lv_at hl 1 rfl) ?_
        refine lv_iload_n hx hb dX5_lift_52 rfl (lv_at hl 2 rfl) ?_
        refine lv_iload_n hx hb dX5_lift_53 rfl (lv_at hl 3 rfl) ?_
        refine lv_iconst (v := (-1)) hx hb dX5_lift_54 (by decide) ?_
        refine lv_icmp_ne (tgt := 67) hx hb dX5_lift_55 (by decide) (fun c9 => ?_) (fun c9 => ?_)
        · rw [if_neg c9] at hF
          refine lv_iload_n hx hb dX5_lift_67 rfl (lv_at hl 3 rfl) ?_
          obtain ⟨z10, hz10, hF⟩ := bnd hF
          refine inI (runV C0 hlo hK hZ hW hS (kX5_liftAt l lo g h _ a1 a2 a3  _ _ hz10) wCO_X5_liftAt wML_X5_80 wIM_X5_liftAt wSE_X5_X5_liftAt wIN_X5 hdX5_liftAt ⟨Nat.le_of_ble_eq_true rfl, Nat.le_of_ble_eq_true rfl⟩ (recvK hK hW (al20 h 20 (by decide)) (ct20 0) rfl) rfl hl.1 rfl (Nat.le_of_ble_eq_true rfl) dX5_lift_68 ⟨Nat.le_of_ble_eq_true rfl, Nat.le_of_ble_eq_true rfl⟩) hS (fun H locs hW hS => ?_)
          cases hF
          exact retI C0 hr hlk hW hS dX5_lift_71
        · rw [if_pos c9] at hF
          refine lv_aload_n hx hb dX5_lift_58 rfl (lv_at hl 0 rfl) ?_
          refine lv_iload_n hx hb dX5_lift_59 rfl (lv_at hl 1 rfl) ?_
          refine lv_iconst (v := 5) hx hb dX5_lift_60 (by decide) ?_
          obtain ⟨z11, hz11, hF⟩ := bnd hF
          refine inI (runV C0 hlo hK hZ hW hS (kX5_get l lo g h _ a1 5  _ _ hz11) wCO_X5_get wML_X5_77 wIM_X5_get wSE_X5_X5_get wIN_X5 hdX5_get ⟨Nat.le_of_ble_eq_true rfl, Nat.le_of_ble_eq_true rfl⟩ (recvK hK hW (al20 h 20 (by decide)) (ct20 0) rfl) rfl hl.1 rfl (Nat.le_of_ble_eq_true rfl) dX5_lift_61 ⟨Nat.le_of_ble_eq_true rfl, Nat.le_of_ble_eq_true rfl⟩) hS (fun H locs hW hS => ?_)
          refine lv_goto (tgt := 68) hx hb dX5_lift_64 (by decide) ?_
          obtain ⟨z12, hz12, hF⟩ := bnd hF
          refine inI (runV C0 hlo hK hZ hW hS (kX5_liftAt l lo g h _ a1 a2 z11.1  _ _ hz12) wCO_X5_liftAt wML_X5_80 wIM_X5_liftAt wSE_X5_X5_liftAt wIN_X5 hdX5_liftAt ⟨Nat.le_of_ble_eq_true rfl, Nat.le_of_ble_eq_true rfl⟩ (recvK hK hW (al20 h 20 (by decide)) (ct20 0) rfl) rfl hl.1 rfl (Nat.le_of_ble_eq_true rfl) dX5_lift_68 ⟨Nat.le_of_ble_eq_true rfl, Nat.le_of_ble_eq_true rfl⟩) hS (fun H locs hW hS => ?_)
          cases hF
          exact retI C0 hr hlk hW hS dX5_lift_71
      · rw [if_pos c8] at hF
        refine lv_aload_n hx hb dX5_lift_44 rfl (lv_at hl 0 rfl) ?_
        refine lv_iconst (v := 2) hx hb dX5_lift_45 (by decide) ?_
        obtain ⟨z13, hz13, hF⟩ := bnd hF
        refine inI (runV C0 hlo hK hZ hW hS (kX5_fail l lo g h _ 2  _ _ hz13) wCO_X5_fail wML_X5_52 wIM_X5_fail wSE_X5_X5_fail wIN_X5 hdX5_fail ⟨Nat.le_of_ble_eq_true rfl, Nat.le_of_ble_eq_true rfl⟩ (recvK hK hW (al20 h 20 (by decide)) (ct20 0) rfl) rfl hl.1 rfl (Nat.le_of_ble_eq_true rfl) dX5_lift_46 ⟨Nat.le_of_ble_eq_true rfl, Nat.le_of_ble_eq_true rfl⟩) hS (fun H locs hW hS => ?_)
        cases hF
        exact retI C0 hr hlk hW hS dX5_lift_49
    · rw [if_pos c5] at hF
      refine lv_aload_n hx hb dX5_lift_22 rfl (lv_at hl 0 rfl) ?_
      refine lv_iconst (v := 1) hx hb dX5_lift_23 (by decide) ?_
      obtain ⟨z14, hz14, hF⟩ := bnd hF
      refine inI (runV C0 hlo hK hZ hW hS (kX5_fail l lo g h _ 1  _ _ hz14) wCO_X5_fail wML_X5_52 wIM_X5_fail wSE_X5_X5_fail wIN_X5 hdX5_fail ⟨Nat.le_of_ble_eq_true rfl, Nat.le_of_ble_eq_true rfl⟩ (recvK hK hW (al20 h 20 (by decide)) (ct20 0) rfl) rfl hl.1 rfl (Nat.le_of_ble_eq_true rfl) dX5_lift_24 ⟨Nat.le_of_ble_eq_true rfl, Nat.le_of_ble_eq_true rfl⟩) hS (fun H locs hW hS => ?_)
      cases hF
      exact retI C0 hr hlk hW hS dX5_lift_27
theorem hdX5_heldByAll : yX5_heldByAll.cls = RX5 ∧ yX5_heldByAll.cls ≠ "java/lang/invoke/MethodHandle" ∧ yX5_heldByAll.cls ≠ "java/lang/invoke/VarHandle" ∧ (parseMethodDescriptor yX5_heldByAll.desc).map (fun d => d.parameters.length) = some 0 := by decide +kernel
def LX5_heldByAll_4 (ns nb : Nat) : Nat → Int32 → Int32 → Sg → Option (Int32 × Sg)
  | 0, _, _, _ => none
  | n + 1, v1, v2, σ => if (σ.1 20 0 2) ≤ v2 then (some (v1, σ)) else ((FX5_sp ns nb σ v2 1).bind fun z2 => LX5_heldByAll_4 ns nb  n (v1 + z2.1) (v2 + 1) z2.2)
def FX5_heldByAll (ns nb : Nat) (σ : Sg)  : Option (Int32 × Sg) :=
  (LX5_heldByAll_4 ns nb  4100 0 0 σ).bind fun z3 => some (z3.1, z3.2)
set_option maxHeartbeats 4000000 in
set_option maxRecDepth 100000 in
theorem lX5_heldByAll_4 {p : Program} {l : Launch} {e : Env} {s : State} {m : MethodId} {args : Array Value} {below : List Frame} {meth : Method} {c : Code} {Q : State → Prop} {lo : Nat} {g : Gx} {h : Sh} (C0 : CallFix p m c cX5_heldByAll 3 s args wB RX5) (hlo : lo ≤ s.heap.size) (hK : KW g s) (hZ : ZW lo s s.heap)   : ∀ (n : Nat) (v1 : Int32) (v2 : Int32) (σ : Sg) (z : (Int32 × Sg)) (hF : LX5_heldByAll_4 h.1 h.2.1  n v1 v2 σ = some z) (H : Heap) (locs : List Loc) (ls : Array Slot) (hW : FW g h (Ax lo) σ H) (hS : va_S (Ax lo) s.heap H locs) (hl : lv_has ls 3 [(0, .ref (h.2.2 20 0)), (1, .int v1), (2, .int v2)]) (kk : ∀ (H : Heap) (locs : List Loc) (ls : Array Slot), FW g h (Ax lo) z.2 H → va_S (Ax lo) s.heap H locs → lv_has ls 3 [(1, .int z.1)] → W p l e { frames := 1, cells := 0, slots := 0, locals := 22 } s m args below meth c H locs 0 0 Q (F0 m 27 ls [])), W p l e { frames := 1, cells := 0, slots := 0, locals := 22 } s m args below meth c H locs 0 0 Q (F0 m 4 ls []) := by
  have hx := C0.1
  have hb := C0.2.1
  intro n
  induction n with
  | zero =>
    intro v1 v2 σ z hF
    rw [LX5_heldByAll_4] at hF
    cases hF
  | succ n ih =>
    intro v1 v2 σ z hF H locs ls hW hS hl kk
    rw [LX5_heldByAll_4] at hF
    refine lv_iload_n hx hb dX5_heldByAll_4 rfl (lv_at hl 2 rfl) ?_
    refine lv_aload_n hx hb dX5_heldByAll_5 rfl (lv_at hl 0 rfl) ?_
    refine get20 C0 hK hW 0 (al20 h 20 (by decide)) 2 (by decide) wFL_X5_42 rfl rfl dX5_heldByAll_6 ?_
    refine lv_icmp_ge (tgt := 27) hx hb dX5_heldByAll_9 (by decide) (fun c1 => ?_) (fun c1 => ?_)
    · rw [if_pos c1] at hF
      cases hF
      exact kk _ _ _ hW hS (lv_sub hl [1] rfl)
    · rw [if_neg c1] at hF
      refine lv_iload_n hx hb dX5_heldByAll_12 rfl (lv_at hl 1 rfl) ?_
      refine lv_aload_n hx hb dX5_heldByAll_13 rfl (lv_at hl 0 rfl) ?_
      refine lv_iload_n hx hb dX5_heldByAll_14 rfl (lv_at hl 2 rfl) ?_
      refine lv_iconst (v := 1) hx hb dX5_heldByAll_15 (by decide) ?_
      obtain ⟨z2, hz2, hF⟩ := bnd hF
      refine inI (runV C0 hlo hK hZ hW hS (kX5_sp l lo g h _ v2 1  _ _ hz2) wCO_X5_sp wML_X5_67 wIM_X5_sp wSE_X5_X5_sp wIN_X5 hdX5_sp ⟨Nat.le_of_ble_eq_true rfl, Nat.le_of_ble_eq_true rfl⟩ (recvK hK hW (al20 h 20 (by decide)) (ct20 0) rfl) rfl hl.1 rfl (Nat.le_of_ble_eq_true rfl) dX5_heldByAll_16 ⟨Nat.le_of_ble_eq_true rfl, Nat.le_of_ble_eq_true rfl⟩) hS (fun H locs hW hS => ?_)
      refine lv_iadd hx hb dX5_heldByAll_19 ?_
      refine lv_istore_n (lv' := [(1, .int (v1 + z2.1)), (0, .ref (h.2.2 20 0)), (2, .int v2)]) hx hb dX5_heldByAll_20 rfl hl (by decide) rfl (fun ls hl => ?_)
      refine lv_iinc (v := v2 + 1) (lv' := [(2, .int (v2 + 1)), (1, .int (v1 + z2.1)), (0, .ref (h.2.2 20 0))]) hx hb dX5_heldByAll_21 hl (k := 2) rfl rfl (by decide) rfl (fun ls hl => ?_)
      refine lv_goto (tgt := 4) hx hb dX5_heldByAll_24 (by decide) ?_
      exact ih (v1 + z2.1) (v2 + 1) z2.2 z hF _ _ _ hW hS (lv_sub hl [2, 1, 0] rfl) kk
set_option maxHeartbeats 4000000 in
set_option maxRecDepth 100000 in
theorem kX5_heldByAll (l : Launch) (lo : Nat) (g : Gx) (h : Sh) (σ : Sg)   (r : Int32) (σ1 : Sg) (hF : FX5_heldByAll h.1 h.2.1 σ  = some (r, σ1)) : MI l yX5_heldByAll (ws_ yX5_heldByAll cX5_heldByAll 3 (some .int)) 1 22 0 0 lo g h [.ref (h.2.2 20 0)] σ r σ1 := by
  refine ofB (own := RX5) (by decide +kernel) rfl (fun p e s m below meth c C0 hr hlk hlo hK hZ hW hS ls hl => ?_) (Nat.le_of_ble_eq_true rfl)
  have hx := C0.1
  have hb := C0.2.1
  have hl : lv_has ls 3 [(0, .ref (h.2.2 20 0))] := hl
  unfold FX5_heldByAll at hF
  refine lv_iconst (v := 0) hx hb dX5_heldByAll_0 (by decide) ?_
  refine lv_istore_n (lv' := [(1, .int 0), (0, .ref (h.2.2 20 0))]) hx hb dX5_heldByAll_1 rfl hl (by decide) rfl (fun ls hl => ?_)
  refine lv_iconst (v := 0) hx hb dX5_heldByAll_2 (by decide) ?_
  refine lv_istore_n (lv' := [(2, .int 0), (1, .int 0), (0, .ref (h.2.2 20 0))]) hx hb dX5_heldByAll_3 rfl hl (by decide) rfl (fun ls hl => ?_)
  obtain ⟨z3, hz3, hF⟩ := bnd hF
  refine lX5_heldByAll_4 C0 hlo hK hZ   _ 0 0 _ z3 hz3 _ _ _ hW hS (lv_sub hl [2, 1, 0] rfl) (fun H locs ls hW hS hl => ?_)
  refine lv_iload_n hx hb dX5_heldByAll_27 rfl (lv_at hl 0 rfl) ?_
  cases hF
  exact retI C0 hr hlk hW hS dX5_heldByAll_28
theorem hdX5_counted : yX5_counted.cls = RX5 ∧ yX5_counted.cls ≠ "java/lang/invoke/MethodHandle" ∧ yX5_counted.cls ≠ "java/lang/invoke/VarHandle" ∧ (parseMethodDescriptor yX5_counted.desc).map (fun d => d.parameters.length) = some 1 := by decide +kernel
def FX5_counted (ns nb : Nat) (σ : Sg) (a1 : Int32) : Option (Int32 × Sg) :=
  if a1 = 0 then (some (σ.1 20 0 1, σ)) else (if a1 = 1 then (some (σ.1 20 0 2, σ)) else (if a1 = 2 then (some (σ.1 20 0 3, σ)) else (if a1 = 3 then ((FX5_pairs ns nb σ ).bind fun z4 => some (z4.1, z4.2)) else (if a1 = 4 then (some (σ.1 20 0 10, σ)) else ((FX5_heldByAll ns nb σ ).bind fun z7 => some (z7.1, z7.2))))))
set_option maxHeartbeats 4000000 in
set_option maxRecDepth 100000 in
theorem kX5_counted (l : Launch) (lo : Nat) (g : Gx) (h : Sh) (σ : Sg) (a1 : Int32)  (r : Int32) (σ1 : Sg) (hF : FX5_counted h.1 h.2.1 σ a1 = some (r, σ1)) : MI l yX5_counted (ws_ yX5_counted cX5_counted 2 (some .int)) 2 44 0 0 lo g h [.ref (h.2.2 20 0), .int a1] σ r σ1 := by
  refine ofB (own := RX5) (by decide +kernel) rfl (fun p e s m below meth c C0 hr hlk hlo hK hZ hW hS ls hl => ?_) (Nat.le_of_ble_eq_true rfl)
  have hx := C0.1
  have hb := C0.2.1
  have hl : lv_has ls 2 [(0, .ref (h.2.2 20 0)), (1, .int a1)] := hl
  unfold FX5_counted at hF
  refine lv_iload_n hx hb dX5_counted_0 rfl (lv_at hl 1 rfl) ?_
  by_cases c1 : a1 = 0
  · rw [if_pos c1] at hF
    refine lv_tableIn (tgt := 36) (off := 35) hx hb dX5_counted_1 (by rw [c1]; decide) (by rw [c1]; decide) (by rw [c1]; decide) (by decide) ?_
    refine lv_aload_n hx hb dX5_counted_36 rfl (lv_at hl 0 rfl) ?_
    refine get20 C0 hK hW 0 (al20 h 20 (by decide)) 1 (by decide) wFL_X5_122 rfl rfl dX5_counted_37 ?_
    cases hF
    exact retI C0 hr hlk hW hS dX5_counted_40
  · rw [if_neg c1] at hF
    by_cases c2 : a1 = 1
    · rw [if_pos c2] at hF
      refine lv_tableIn (tgt := 41) (off := 40) hx hb dX5_counted_1 (by rw [c2]; decide) (by rw [c2]; decide) (by rw [c2]; decide) (by decide) ?_
      refine lv_aload_n hx hb dX5_counted_41 rfl (lv_at hl 0 rfl) ?_
      refine get20 C0 hK hW 0 (al20 h 20 (by decide)) 2 (by decide) wFL_X5_42 rfl rfl dX5_counted_42 ?_
      cases hF
      exact retI C0 hr hlk hW hS dX5_counted_45
    · rw [if_neg c2] at hF
      by_cases c3 : a1 = 2
      · rw [if_pos c3] at hF
        refine lv_tableIn (tgt := 46) (off := 45) hx hb dX5_counted_1 (by rw [c3]; decide) (by rw [c3]; decide) (by rw [c3]; decide) (by decide) ?_
        refine lv_aload_n hx hb dX5_counted_46 rfl (lv_at hl 0 rfl) ?_
        refine get20 C0 hK hW 0 (al20 h 20 (by decide)) 3 (by decide) wFL_X5_49 rfl rfl dX5_counted_47 ?_
        cases hF
        exact retI C0 hr hlk hW hS dX5_counted_50
      · rw [if_neg c3] at hF
        by_cases c5 : a1 = 3
        · rw [if_pos c5] at hF
          refine lv_tableIn (tgt := 51) (off := 50) hx hb dX5_counted_1 (by rw [c5]; decide) (by rw [c5]; decide) (by rw [c5]; decide) (by decide) ?_
          refine lv_aload_n hx hb dX5_counted_51 rfl (lv_at hl 0 rfl) ?_
          obtain ⟨z4, hz4, hF⟩ := bnd hF
          refine inI (runV C0 hlo hK hZ hW hS (kX5_pairs l lo g h _   _ _ hz4) wCO_X5_pairs wML_X5_73 wIM_X5_pairs wSE_X5_X5_pairs wIN_X5 hdX5_pairs ⟨Nat.le_of_ble_eq_true rfl, Nat.le_of_ble_eq_true rfl⟩ (recvK hK hW (al20 h 20 (by decide)) (ct20 0) rfl) rfl hl.1 rfl (Nat.le_of_ble_eq_true rfl) dX5_counted_52 ⟨Nat.le_of_ble_eq_true rfl, Nat.le_of_ble_eq_true rfl⟩) hS (fun H locs hW hS => ?_)
          cases hF
          exact retI C0 hr hlk hW hS dX5_counted_55
        · rw [if_neg c5] at hF
          by_cases c6 : a1 = 4
          · rw [if_pos c6] at hF
            refine lv_tableIn (tgt := 56) (off := 55) hx hb dX5_counted_1 (by rw [c6]; decide) (by rw [c6]; decide) (by rw [c6]; decide) (by decide) ?_
            refine lv_aload_n hx hb dX5_counted_56 rfl (lv_at hl 0 rfl) ?_
            refine get20 C0 hK hW 0 (al20 h 20 (by decide)) 10 (by decide) wFL_X5_116 rfl rfl dX5_counted_57 ?_
            cases hF
            exact retI C0 hr hlk hW hS dX5_counted_60
          · rw [if_neg c6] at hF
            have t0 := lv_neT c1 (a := 0) (by decide)
            have t1 := lv_neT c2 (a := 1) (by decide)
            have t2 := lv_neT c3 (a := 2) (by decide)
            have t3 := lv_neT c5 (a := 3) (by decide)
            have t4 := lv_neT c6 (a := 4) (by decide)
            refine lv_tableOut (tgt := 61) hx hb dX5_counted_1 (by omega) (by decide) ?_
            refine lv_aload_n hx hb dX5_counted_61 rfl (lv_at hl 0 rfl) ?_
            obtain ⟨z7, hz7, hF⟩ := bnd hF
            refine inI (runV C0 hlo hK hZ hW hS (kX5_heldByAll l lo g h _   _ _ hz7) wCO_X5_heldByAll wML_X5_138 wIM_X5_heldByAll wSE_X5_X5_heldByAll wIN_X5 hdX5_heldByAll ⟨Nat.le_of_ble_eq_true rfl, Nat.le_of_ble_eq_true rfl⟩ (recvK hK hW (al20 h 20 (by decide)) (ct20 0) rfl) rfl hl.1 rfl (Nat.le_of_ble_eq_true rfl) dX5_counted_62 ⟨Nat.le_of_ble_eq_true rfl, Nat.le_of_ble_eq_true rfl⟩) hS (fun H locs hW hS => ?_)
            cases hF
            exact retI C0 hr hlk hW hS dX5_counted_65
theorem hdX5_count : yX5_count.cls = RX5 ∧ yX5_count.cls ≠ "java/lang/invoke/MethodHandle" ∧ yX5_count.cls ≠ "java/lang/invoke/VarHandle" ∧ (parseMethodDescriptor yX5_count.desc).map (fun d => d.parameters.length) = some 1 := by decide +kernel
def FX5_count (ns nb : Nat) (σ : Sg) (a1 : Int32) : Option (Int32 × Sg) :=
  (FX5_isIn ns nb (sI σ 20 0 0 0) a1 0 5).bind fun z1 => if z1.1 = 0 then ((FX5_fail ns nb z1.2 1).bind fun z3 => some (z3.1, z3.2)) else ((FX5_counted ns nb z1.2 a1).bind fun z4 => some (z4.1, z4.2))
set_option maxHeartbeats 4000000 in
set_option maxRecDepth 100000 in
theorem kX5_count (l : Launch) (lo : Nat) (g : Gx) (h : Sh) (σ : Sg) (a1 : Int32)  (r : Int32) (σ1 : Sg) (hF : FX5_count h.1 h.2.1 σ a1 = some (r, σ1)) : MI l yX5_count (ws_ yX5_count cX5_count 2 (some .int)) 3 65 0 0 lo g h [.ref (h.2.2 20 0), .int a1] σ r σ1 := by
  refine ofB (own := RX5) (by decide +kernel) rfl (fun p e s m below meth c C0 hr hlk hlo hK hZ hW hS ls hl => ?_) (Nat.le_of_ble_eq_true rfl)
  have hx := C0.1
  have hb := C0.2.1
  have hl : lv_has ls 2 [(0, .ref (h.2.2 20 0)), (1, .int a1)] := hl
  unfold FX5_count at hF
  refine lv_aload_n hx hb dX5_count_0 rfl (lv_at hl 0 rfl) ?_
  refine lv_iconst (v := 0) hx hb dX5_count_1 (by decide) ?_
  refine put20_0 C0 hK hW hS 0 (al20 h 20 (by decide)) wFL_X5_38 dX5_count_2 (fun H locs hW hS => ?_)
  refine lv_iload_n hx hb dX5_count_5 rfl (lv_at hl 1 rfl) ?_
  refine lv_iconst (v := 0) hx hb dX5_count_6 (by decide) ?_
  refine lv_iconst (v := 5) hx hb dX5_count_7 (by decide) ?_
  obtain ⟨z1, hz1, hF⟩ := bnd hF
  refine inI (runS C0 hlo hK hZ hW hS (kX5_isIn l lo g h _ a1 0 5  _ _ hz1) wCO_X5_isIn wML_X5_45 wST_X5_isIn wIN_X5 hdsX5_isIn ⟨Nat.le_of_ble_eq_true rfl, Nat.le_of_ble_eq_true rfl⟩ rfl hl.1 rfl (Nat.le_of_ble_eq_true rfl) dX5_count_8 ⟨Nat.le_of_ble_eq_true rfl, Nat.le_of_ble_eq_true rfl⟩) hS (fun H locs hW hS => ?_)
  refine lv_if_eq (tgt := 22) hx hb dX5_count_11 (by decide) (fun c2 => ?_) (fun c2 => ?_)
  · rw [if_pos c2] at hF
    refine lv_aload_n hx hb dX5_count_22 rfl (lv_at hl 0 rfl) ?_
    refine lv_iconst (v := 1) hx hb dX5_count_23 (by decide) ?_
    obtain ⟨z3, hz3, hF⟩ := bnd hF
    refine inI (runV C0 hlo hK hZ hW hS (kX5_fail l lo g h _ 1  _ _ hz3) wCO_X5_fail wML_X5_52 wIM_X5_fail wSE_X5_X5_fail wIN_X5 hdX5_fail ⟨Nat.le_of_ble_eq_true rfl, Nat.le_of_ble_eq_true rfl⟩ (recvK hK hW (al20 h 20 (by decide)) (ct20 0) rfl) rfl hl.1 rfl (Nat.le_of_ble_eq_true rfl) dX5_count_24 ⟨Nat.le_of_ble_eq_true rfl, Nat.le_of_ble_eq_true rfl⟩) hS (fun H locs hW hS => ?_)
    cases hF
    exact retI C0 hr hlk hW hS dX5_count_27
  · rw [if_neg c2] at hF
    refine lv_aload_n hx hb dX5_count_14 rfl (lv_at hl 0 rfl) ?_
    refine lv_iload_n hx hb dX5_count_15 rfl (lv_at hl 1 rfl) ?_
    obtain ⟨z4, hz4, hF⟩ := bnd hF
    refine inI (runV C0 hlo hK hZ hW hS (kX5_counted l lo g h _ a1  _ _ hz4) wCO_X5_counted wML_X5_141 wIM_X5_counted wSE_X5_X5_counted wIN_X5 hdX5_counted ⟨Nat.le_of_ble_eq_true rfl, Nat.le_of_ble_eq_true rfl⟩ (recvK hK hW (al20 h 20 (by decide)) (ct20 0) rfl) rfl hl.1 rfl (Nat.le_of_ble_eq_true rfl) dX5_count_16 ⟨Nat.le_of_ble_eq_true rfl, Nat.le_of_ble_eq_true rfl⟩) hS (fun H locs hW hS => ?_)
    refine lv_goto (tgt := 27) hx hb dX5_count_19 (by decide) ?_
    cases hF
    exact retI C0 hr hlk hW hS dX5_count_27
theorem hdX5_sung : yX5_sung.cls = RX5 ∧ yX5_sung.cls ≠ "java/lang/invoke/MethodHandle" ∧ yX5_sung.cls ≠ "java/lang/invoke/VarHandle" ∧ (parseMethodDescriptor yX5_sung.desc).map (fun d => d.parameters.length) = some 2 := by decide +kernel
def FX5_sung (ns nb : Nat) (σ : Sg) (a1 : Int32) (a2 : Int32) : Option (Int32 × Sg) :=
  (FX5_isIn ns nb (sI σ 20 0 0 0) a1 0 (((sI σ 20 0 0 0).1 20 0 11) - 1)).bind fun z1 => if z1.1 = 0 then ((FX5_fail ns nb z1.2 1).bind fun z3 => some (z3.1, z3.2)) else ((FX5_isIn ns nb z1.2 a2 0 3).bind fun z4 => if z4.1 = 0 then ((FX5_fail ns nb z4.2 1).bind fun z6 => some (z6.1, z6.2)) else (if (((4 * a1) + a2) < 0 ∨ 1000 ≤ ((4 * a1) + a2).toNatClampNeg) then none else (some (z4.2.1 27 0 ((4 * a1) + a2).toNatClampNeg, z4.2))))
set_option maxHeartbeats 4000000 in
set_option maxRecDepth 100000 in
theorem kX5_sung (l : Launch) (lo : Nat) (g : Gx) (h : Sh) (σ : Sg) (a1 : Int32) (a2 : Int32)  (r : Int32) (σ1 : Sg) (hF : FX5_sung h.1 h.2.1 σ a1 a2 = some (r, σ1)) : MI l yX5_sung (ws_ yX5_sung cX5_sung 3 (some .int)) 1 22 0 0 lo g h [.ref (h.2.2 20 0), .int a1, .int a2] σ r σ1 := by
  refine ofB (own := RX5) (by decide +kernel) rfl (fun p e s m below meth c C0 hr hlk hlo hK hZ hW hS ls hl => ?_) (Nat.le_of_ble_eq_true rfl)
  have hx := C0.1
  have hb := C0.2.1
  have hl : lv_has ls 3 [(0, .ref (h.2.2 20 0)), (1, .int a1), (2, .int a2)] := hl
  unfold FX5_sung at hF
  refine lv_aload_n hx hb dX5_sung_0 rfl (lv_at hl 0 rfl) ?_
  refine lv_iconst (v := 0) hx hb dX5_sung_1 (by decide) ?_
  refine put20_0 C0 hK hW hS 0 (al20 h 20 (by decide)) wFL_X5_38 dX5_sung_2 (fun H locs hW hS => ?_)
  refine lv_iload_n hx hb dX5_sung_5 rfl (lv_at hl 1 rfl) ?_
  refine lv_iconst (v := 0) hx hb dX5_sung_6 (by decide) ?_
  refine lv_aload_n hx hb dX5_sung_7 rfl (lv_at hl 0 rfl) ?_
  refine get20 C0 hK hW 0 (al20 h 20 (by decide)) 11 (by decide) wFL_X5_119 rfl rfl dX5_sung_8 ?_
  refine lv_iconst (v := 1) hx hb dX5_sung_11 (by decide) ?_
  refine lv_isub hx hb dX5_sung_12 ?_
  obtain ⟨z1, hz1, hF⟩ := bnd hF
  refine inI (runS C0 hlo hK hZ hW hS (kX5_isIn l lo g h _ a1 0 (((sI σ 20 0 0 0).1 20 0 11) - 1)  _ _ hz1) wCO_X5_isIn wML_X5_45 wST_X5_isIn wIN_X5 hdsX5_isIn ⟨Nat.le_of_ble_eq_true rfl, Nat.le_of_ble_eq_true rfl⟩ rfl hl.1 rfl (Nat.le_of_ble_eq_true rfl) dX5_sung_13 ⟨Nat.le_of_ble_eq_true rfl, Nat.le_of_ble_eq_true rfl⟩) hS (fun H locs hW hS => ?_)
  refine lv_if_eq (tgt := 41) hx hb dX5_sung_16 (by decide) (fun c2 => ?_) (fun c2 => ?_)
  · rw [if_pos c2] at hF
    refine lv_aload_n hx hb dX5_sung_41 rfl (lv_at hl 0 rfl) ?_
    refine lv_iconst (v := 1) hx hb dX5_sung_42 (by decide) ?_
    obtain ⟨z3, hz3, hF⟩ := bnd hF
    refine inI (runV C0 hlo hK hZ hW hS (kX5_fail l lo g h _ 1  _ _ hz3) wCO_X5_fail wML_X5_52 wIM_X5_fail wSE_X5_X5_fail wIN_X5 hdX5_fail ⟨Nat.le_of_ble_eq_true rfl, Nat.le_of_ble_eq_true rfl⟩ (recvK hK hW (al20 h 20 (by decide)) (ct20 0) rfl) rfl hl.1 rfl (Nat.le_of_ble_eq_true rfl) dX5_sung_43 ⟨Nat.le_of_ble_eq_true rfl, Nat.le_of_ble_eq_true rfl⟩) hS (fun H locs hW hS => ?_)
    cases hF
    exact retI C0 hr hlk hW hS dX5_sung_46
  · rw [if_neg c2] at hF
    refine lv_iload_n hx hb dX5_sung_19 rfl (lv_at hl 2 rfl) ?_
    refine lv_iconst (v := 0) hx hb dX5_sung_20 (by decide) ?_
    refine lv_iconst (v := 3) hx hb dX5_sung_21 (by decide) ?_
    obtain ⟨z4, hz4, hF⟩ := bnd hF
    refine inI (runS C0 hlo hK hZ hW hS (kX5_isIn l lo g h _ a2 0 3  _ _ hz4) wCO_X5_isIn wML_X5_45 wST_X5_isIn wIN_X5 hdsX5_isIn ⟨Nat.le_of_ble_eq_true rfl, Nat.le_of_ble_eq_true rfl⟩ rfl hl.1 rfl (Nat.le_of_ble_eq_true rfl) dX5_sung_22 ⟨Nat.le_of_ble_eq_true rfl, Nat.le_of_ble_eq_true rfl⟩) hS (fun H locs hW hS => ?_)
    refine lv_if_eq (tgt := 41) hx hb dX5_sung_25 (by decide) (fun c5 => ?_) (fun c5 => ?_)
    · rw [if_pos c5] at hF
      refine lv_aload_n hx hb dX5_sung_41 rfl (lv_at hl 0 rfl) ?_
      refine lv_iconst (v := 1) hx hb dX5_sung_42 (by decide) ?_
      obtain ⟨z6, hz6, hF⟩ := bnd hF
      refine inI (runV C0 hlo hK hZ hW hS (kX5_fail l lo g h _ 1  _ _ hz6) wCO_X5_fail wML_X5_52 wIM_X5_fail wSE_X5_X5_fail wIN_X5 hdX5_fail ⟨Nat.le_of_ble_eq_true rfl, Nat.le_of_ble_eq_true rfl⟩ (recvK hK hW (al20 h 20 (by decide)) (ct20 0) rfl) rfl hl.1 rfl (Nat.le_of_ble_eq_true rfl) dX5_sung_43 ⟨Nat.le_of_ble_eq_true rfl, Nat.le_of_ble_eq_true rfl⟩) hS (fun H locs hW hS => ?_)
      cases hF
      exact retI C0 hr hlk hW hS dX5_sung_46
    · rw [if_neg c5] at hF
      refine lv_aload_n hx hb dX5_sung_28 rfl (lv_at hl 0 rfl) ?_
      refine get20 C0 hK hW 0 (al20 h 20 (by decide)) 12 (by decide) wFL_X5_29 rfl rfl dX5_sung_29 ?_
      refine lv_iconst (v := 4) hx hb dX5_sung_32 (by decide) ?_
      refine lv_iload_n hx hb dX5_sung_33 rfl (lv_at hl 1 rfl) ?_
      refine lv_imul hx hb dX5_sung_34 ?_
      refine lv_iload_n hx hb dX5_sung_35 rfl (lv_at hl 2 rfl) ?_
      refine lv_iadd hx hb dX5_sung_36 ?_
      obtain ⟨hg, hF⟩ := grd hF
      refine ald C0 hK hW 27 0 (al20 h 27 (by decide)) (by decide) hg dX5_sung_37 ?_
      refine lv_goto (tgt := 46) hx hb dX5_sung_38 (by decide) ?_
      cases hF
      exact retI C0 hr hlk hW hS dX5_sung_46
theorem hdX5_chord : yX5_chord.cls = RX5 ∧ yX5_chord.cls ≠ "java/lang/invoke/MethodHandle" ∧ yX5_chord.cls ≠ "java/lang/invoke/VarHandle" ∧ (parseMethodDescriptor yX5_chord.desc).map (fun d => d.parameters.length) = some 1 := by decide +kernel
def LX5_chord_49 (ns nb : Nat) (v1 : Int32) (v2 : Int32) (v3 : Int32) : Nat → Int32 → Int32 → Sg → Option (Int32 × Sg)
  | 0, _, _, _ => none
  | n + 1, v4, v5, σ => if v3 ≤ v5 then (some (v4, σ)) else (if v4 = 0 then (LX5_chord_49 ns nb v1 v2 v3 n 0 (v5 + 1) σ) else (if ((4 * v5) < 0 ∨ 1000 ≤ (4 * v5).toNatClampNeg) then none else (if (σ.1 27 0 (4 * v5).toNatClampNeg) = v1 then (if (((4 * v5) + 3) < 0 ∨ 1000 ≤ ((4 * v5) + 3).toNatClampNeg) then none else (if (((4 * v3) + 3) < 0 ∨ 1000 ≤ ((4 * v3) + 3).toNatClampNeg) then none else (if (σ.1 27 0 ((4 * v5) + 3).toNatClampNeg) = (σ.1 27 0 ((4 * v3) + 3).toNatClampNeg) then (LX5_chord_49 ns nb v1 v2 v3 n 0 (v5 + 1) σ) else (LX5_chord_49 ns nb v1 v2 v3 n 1 (v5 + 1) σ)))) else (LX5_chord_49 ns nb v1 v2 v3 n 1 (v5 + 1) σ))))
def LX5_chord_19 (ns nb : Nat) (v1 : Int32) : Nat → Int32 → Int32 → Sg → Option (Int32 × Sg)
  | 0, _, _, _ => none
  | n + 1, v2, v3, σ => if (σ.1 20 0 11) ≤ v3 then (some (v2, σ)) else (if ((4 * v3) < 0 ∨ 1000 ≤ (4 * v3).toNatClampNeg) then none else (if (σ.1 27 0 (4 * v3).toNatClampNeg) = v1 then ((LX5_chord_49 ns nb v1 v2 v3 4100 1 0 σ).bind fun z10 => if z10.1 = 0 then (LX5_chord_19 ns nb v1 n (v2 + 0) (v3 + 1) z10.2) else (LX5_chord_19 ns nb v1 n (v2 + 1) (v3 + 1) z10.2)) else ((LX5_chord_49 ns nb v1 v2 v3 4100 0 0 σ).bind fun z8 => if z8.1 = 0 then (LX5_chord_19 ns nb v1 n (v2 + 0) (v3 + 1) z8.2) else (LX5_chord_19 ns nb v1 n (v2 + 1) (v3 + 1) z8.2))))
def FX5_chord (ns nb : Nat) (σ : Sg) (a1 : Int32) : Option (Int32 × Sg) :=
  if 0 ≤ a1 then ((LX5_chord_19 ns nb a1 4100 0 0 (sI σ 20 0 0 0)).bind fun z12 => some (z12.1, z12.2)) else ((FX5_fail ns nb (sI σ 20 0 0 0) 1).bind fun z13 => some (z13.1, z13.2))
set_option maxHeartbeats 4000000 in
set_option maxRecDepth 100000 in
theorem lX5_chord_49 {p : Program} {l : Launch} {e : Env} {s : State} {m : MethodId} {args : Array Value} {below : List Frame} {meth : Method} {c : Code} {Q : State → Prop} {lo : Nat} {g : Gx} {h : Sh} (C0 : CallFix p m c cX5_chord 6 s args wB RX5) (hlo : lo ≤ s.heap.size) (hK : KW g s) (hZ : ZW lo s s.heap) (v1 : Int32) (v2 : Int32) (v3 : Int32)  : ∀ (n : Nat) (v4 : Int32) (v5 : Int32) (σ : Sg) (z : (Int32 × Sg)) (hF : LX5_chord_49 h.1 h.2.1 v1 v2 v3 n v4 v5 σ = some z) (H : Heap) (locs : List Loc) (ls : Array Slot) (hW : FW g h (Ax lo) σ H) (hS : va_S (Ax lo) s.heap H locs) (hl : lv_has ls 6 [(0, .ref (h.2.2 20 0)), (1, .int v1), (2, .int v2), (3, .int v3), (4, .int v4), (5, .int v5)]) (kk : ∀ (H : Heap) (locs : List Loc) (ls : Array Slot), FW g h (Ax lo) z.2 H → va_S (Ax lo) s.heap H locs → lv_has ls 6 [(0, .ref (h.2.2 20 0)), (1, .int v1), (2, .int v2), (3, .int v3), (4, .int z.1)] → W p l e { frames := 1, cells := 0, slots := 0, locals := 21 } s m args below meth c H locs 0 0 Q (F0 m 110 ls [])), W p l e { frames := 1, cells := 0, slots := 0, locals := 21 } s m args below meth c H locs 0 0 Q (F0 m 49 ls []) := by
  have hx := C0.1
  have hb := C0.2.1
  intro n
  induction n with
  | zero =>
    intro v4 v5 σ z hF
    rw [LX5_chord_49] at hF
    cases hF
  | succ n ih =>
    intro v4 v5 σ z hF H locs ls hW hS hl kk
    rw [LX5_chord_49] at hF
    refine lv_iload hx hb dX5_chord_49 (lv_at hl 5 rfl) ?_
    refine lv_iload_n hx hb dX5_chord_51 rfl (lv_at hl 3 rfl) ?_
    refine lv_icmp_ge (tgt := 110) hx hb dX5_chord_52 (by decide) (fun c4 => ?_) (fun c4 => ?_)
    · rw [if_pos c4] at hF
      cases hF
      exact kk _ _ _ hW hS (lv_sub hl [0, 1, 2, 3, 4] rfl)
    · rw [if_neg c4] at hF
      refine lv_iload hx hb dX5_chord_55 (lv_at hl 4 rfl) ?_
      refine lv_if_eq (tgt := 101) hx hb dX5_chord_57 (by decide) (fun c5 => ?_) (fun c5 => ?_)
      · rw [if_pos c5] at hF
        refine lv_iconst (v := 0) hx hb dX5_chord_101 (by decide) ?_
        refine lv_istore (lv' := [(4, .int 0), (0, .ref (h.2.2 20 0)), (1, .int v1), (2, .int v2), (3, .int v3), (5, .int v5)]) hx hb dX5_chord_102 hl (by decide) rfl (fun ls hl => ?_)
        refine lv_iinc (v := v5 + 1) (lv' := [(5, .int (v5 + 1)), (4, .int 0), (0, .ref (h.2.2 20 0)), (1, .int v1), (2, .int v2), (3, .int v3)]) hx hb dX5_chord_104 hl (k := 5) rfl rfl (by decide) rfl (fun ls hl => ?_)
        refine lv_goto (tgt := 49) hx hb dX5_chord_107 (by decide) ?_
        exact ih 0 (v5 + 1) σ z hF _ _ _ hW hS (lv_sub hl [2, 3, 4, 5, 1, 0] rfl) kk
      · rw [if_neg c5] at hF
        refine lv_aload_n hx hb dX5_chord_60 rfl (lv_at hl 0 rfl) ?_
        refine get20 C0 hK hW 0 (al20 h 20 (by decide)) 12 (by decide) wFL_X5_29 rfl rfl dX5_chord_61 ?_
        refine lv_iconst (v := 4) hx hb dX5_chord_64 (by decide) ?_
        refine lv_iload hx hb dX5_chord_65 (lv_at hl 5 rfl) ?_
        refine lv_imul hx hb dX5_chord_67 ?_
        obtain ⟨hg, hF⟩ := grd hF
        refine ald C0 hK hW 27 0 (al20 h 27 (by decide)) (by decide) hg dX5_chord_68 ?_
        refine lv_iload_n hx hb dX5_chord_69 rfl (lv_at hl 1 rfl) ?_
        refine lv_icmp_ne (tgt := 97) hx hb dX5_chord_70 (by decide) (fun c6 => ?_) (fun c6 => ?_)
        · rw [if_neg c6] at hF
          refine lv_iconst (v := 1) hx hb dX5_chord_97 (by decide) ?_
          refine lv_goto (tgt := 102) hx hb dX5_chord_98 (by decide) ?_
          refine lv_istore (lv' := [(4, .int 1), (0, .ref (h.2.2 20 0)), (1, .int v1), (2, .int v2), (3, .int v3), (5, .int v5)]) hx hb dX5_chord_102 hl (by decide) rfl (fun ls hl => ?_)
          refine lv_iinc (v := v5 + 1) (lv' := [(5, .int (v5 + 1)), (4, .int 1), (0, .ref (h.2.2 20 0)), (1, .int v1), (2, .int v2), (3, .int v3)]) hx hb dX5_chord_104 hl (k := 5) rfl rfl (by decide) rfl (fun ls hl => ?_)
          refine lv_goto (tgt := 49) hx hb dX5_chord_107 (by decide) ?_
          exact ih 1 (v5 + 1) σ z hF _ _ _ hW hS (lv_sub hl [2, 3, 4, 5, 1, 0] rfl) kk
        · rw [if_pos c6] at hF
          refine lv_aload_n hx hb dX5_chord_73 rfl (lv_at hl 0 rfl) ?_
          refine get20 C0 hK hW 0 (al20 h 20 (by decide)) 12 (by decide) wFL_X5_29 rfl rfl dX5_chord_74 ?_
          refine lv_iconst (v := 4) hx hb dX5_chord_77 (by decide) ?_
          refine lv_iload hx hb dX5_chord_78 (lv_at hl 5 rfl) ?_
          refine lv_imul hx hb dX5_chord_80 ?_
          refine lv_iconst (v := 3) hx hb dX5_chord_81 (by decide) ?_
          refine lv_iadd hx hb dX5_chord_82 ?_
          obtain ⟨hg, hF⟩ := grd hF
          refine ald C0 hK hW 27 0 (al20 h 27 (by decide)) (by decide) hg dX5_chord_83 ?_
          refine lv_aload_n hx hb dX5_chord_84 rfl (lv_at hl 0 rfl) ?_
          refine get20 C0 hK hW 0 (al20 h 20 (by decide)) 12 (by decide) wFL_X5_29 rfl rfl dX5_chord_85 ?_
          refine lv_iconst (v := 4) hx hb dX5_chord_88 (by decide) ?_
          refine lv_iload_n hx hb dX5_chord_89 rfl (lv_at hl 3 rfl) ?_
          refine lv_imul hx hb dX5_chord_90 ?_
          refine lv_iconst (v := 3) hx hb dX5_chord_91 (by decide) ?_
          refine lv_iadd hx hb dX5_chord_92 ?_
          obtain ⟨hg, hF⟩ := grd hF
          refine ald C0 hK hW 27 0 (al20 h 27 (by decide)) (by decide) hg dX5_chord_93 ?_
          refine lv_icmp_eq (tgt := 101) hx hb dX5_chord_94 (by decide) (fun c7 => ?_) (fun c7 => ?_)
          · rw [if_pos c7] at hF
            refine lv_iconst (v := 0) hx hb dX5_chord_101 (by decide) ?_
            refine lv_istore (lv' := [(4, .int 0), (0, .ref (h.2.2 20 0)), (1, .int v1), (2, .int v2), (3, .int v3), (5, .int v5)]) hx hb dX5_chord_102 hl (by decide) rfl (fun ls hl => ?_)
            refine lv_iinc (v := v5 + 1) (lv' := [(5, .int (v5 + 1)), (4, .int 0), (0, .ref (h.2.2 20 0)), (1, .int v1), (2, .int v2), (3, .int v3)]) hx hb dX5_chord_104 hl (k := 5) rfl rfl (by decide) rfl (fun ls hl => ?_)
            refine lv_goto (tgt := 49) hx hb dX5_chord_107 (by decide) ?_
            exact ih 0 (v5 + 1) σ z hF _ _ _ hW hS (lv_sub hl [2, 3, 4, 5, 1, 0] rfl) kk
          · rw [if_neg c7] at hF
            refine lv_iconst (v := 1) hx hb dX5_chord_97 (by decide) ?_
            refine lv_goto (tgt := 102) hx hb dX5_chord_98 (by decide) ?_
            refine lv_istore (lv' := [(4, .int 1), (0, .ref (h.2.2 20 0)), (1, .int v1), (2, .int v2), (3, .int v3), (5, .int v5)]) hx hb dX5_chord_102 hl (by decide) rfl (fun ls hl => ?_)
            refine lv_iinc (v := v5 + 1) (lv' := [(5, .int (v5 + 1)), (4, .int 1), (0, .ref (h.2.2 20 0)), (1, .int v1), (2, .int v2), (3, .int v3)]) hx hb dX5_chord_104 hl (k := 5) rfl rfl (by decide) rfl (fun ls hl => ?_)
            refine lv_goto (tgt := 49) hx hb dX5_chord_107 (by decide) ?_
            exact ih 1 (v5 + 1) σ z hF _ _ _ hW hS (lv_sub hl [2, 3, 4, 5, 1, 0] rfl) kk
set_option maxHeartbeats 4000000 in
set_option maxRecDepth 100000 in
theorem lX5_chord_19 {p : Program} {l : Launch} {e : Env} {s : State} {m : MethodId} {args : Array Value} {below : List Frame} {meth : Method} {c : Code} {Q : State → Prop} {lo : Nat} {g : Gx} {h : Sh} (C0 : CallFix p m c cX5_chord 6 s args wB RX5) (hlo : lo ≤ s.heap.size) (hK : KW g s) (hZ : ZW lo s s.heap) (v1 : Int32)  : ∀ (n : Nat) (v2 : Int32) (v3 : Int32) (σ : Sg) (z : (Int32 × Sg)) (hF : LX5_chord_19 h.1 h.2.1 v1 n v2 v3 σ = some z) (H : Heap) (locs : List Loc) (ls : Array Slot) (hW : FW g h (Ax lo) σ H) (hS : va_S (Ax lo) s.heap H locs) (hl : lv_has ls 6 [(0, .ref (h.2.2 20 0)), (1, .int v1), (2, .int v2), (3, .int v3)]) (kk : ∀ (H : Heap) (locs : List Loc) (ls : Array Slot), FW g h (Ax lo) z.2 H → va_S (Ax lo) s.heap H locs → lv_has ls 6 [(2, .int z.1)] → W p l e { frames := 1, cells := 0, slots := 0, locals := 21 } s m args below meth c H locs 0 0 Q (F0 m 129 ls [])), W p l e { frames := 1, cells := 0, slots := 0, locals := 21 } s m args below meth c H locs 0 0 Q (F0 m 19 ls []) := by
  have hx := C0.1
  have hb := C0.2.1
  intro n
  induction n with
  | zero =>
    intro v2 v3 σ z hF
    rw [LX5_chord_19] at hF
    cases hF
  | succ n ih =>
    intro v2 v3 σ z hF H locs ls hW hS hl kk
    rw [LX5_chord_19] at hF
    refine lv_iload_n hx hb dX5_chord_19 rfl (lv_at hl 3 rfl) ?_
    refine lv_aload_n hx hb dX5_chord_20 rfl (lv_at hl 0 rfl) ?_
    refine get20 C0 hK hW 0 (al20 h 20 (by decide)) 11 (by decide) wFL_X5_119 rfl rfl dX5_chord_21 ?_
    refine lv_icmp_ge (tgt := 129) hx hb dX5_chord_24 (by decide) (fun c2 => ?_) (fun c2 => ?_)
    · rw [if_pos c2] at hF
      cases hF
      exact kk _ _ _ hW hS (lv_sub hl [2] rfl)
    · rw [if_neg c2] at hF
      refine lv_aload_n hx hb dX5_chord_27 rfl (lv_at hl 0 rfl) ?_
      refine get20 C0 hK hW 0 (al20 h 20 (by decide)) 12 (by decide) wFL_X5_29 rfl rfl dX5_chord_28 ?_
      refine lv_iconst (v := 4) hx hb dX5_chord_31 (by decide) ?_
      refine lv_iload_n hx hb dX5_chord_32 rfl (lv_at hl 3 rfl) ?_
      refine lv_imul hx hb dX5_chord_33 ?_
      obtain ⟨hg, hF⟩ := grd hF
      refine ald C0 hK hW 27 0 (al20 h 27 (by decide)) (by decide) hg dX5_chord_34 ?_
      refine lv_iload_n hx hb dX5_chord_35 rfl (lv_at hl 1 rfl) ?_
      refine lv_icmp_ne (tgt := 43) hx hb dX5_chord_36 (by decide) (fun c3 => ?_) (fun c3 => ?_)
      · rw [if_neg c3] at hF
        refine lv_iconst (v := 0) hx hb dX5_chord_43 (by decide) ?_
        refine lv_istore (lv' := [(4, .int 0), (0, .ref (h.2.2 20 0)), (1, .int v1), (2, .int v2), (3, .int v3)]) hx hb dX5_chord_44 hl (by decide) rfl (fun ls hl => ?_)
        refine lv_iconst (v := 0) hx hb dX5_chord_46 (by decide) ?_
        refine lv_istore (lv' := [(5, .int 0), (4, .int 0), (0, .ref (h.2.2 20 0)), (1, .int v1), (2, .int v2), (3, .int v3)]) hx hb dX5_chord_47 hl (by decide) rfl (fun ls hl => ?_)
        obtain ⟨z8, hz8, hF⟩ := bnd hF
        refine lX5_chord_49 C0 hlo hK hZ v1 v2 v3  _ 0 0 _ z8 hz8 _ _ _ hW hS (lv_sub hl [2, 3, 4, 5, 1, 0] rfl) (fun H locs ls hW hS hl => ?_)
        refine lv_iload_n hx hb dX5_chord_110 rfl (lv_at hl 2 rfl) ?_
        refine lv_iload hx hb dX5_chord_111 (lv_at hl 4 rfl) ?_
        refine lv_if_eq (tgt := 120) hx hb dX5_chord_113 (by decide) (fun c9 => ?_) (fun c9 => ?_)
        · rw [if_pos c9] at hF
          refine lv_iconst (v := 0) hx hb dX5_chord_120 (by decide) ?_
          refine lv_iadd hx hb dX5_chord_121 ?_
          refine lv_istore_n (lv' := [(2, .int (v2 + 0)), (0, .ref (h.2.2 20 0)), (1, .int v1), (3, .int v3), (4, .int z8.1)]) hx hb dX5_chord_122 rfl hl (by decide) rfl (fun ls hl => ?_)
          refine lv_iinc (v := v3 + 1) (lv' := [(3, .int (v3 + 1)), (2, .int (v2 + 0)), (0, .ref (h.2.2 20 0)), (1, .int v1), (4, .int z8.1)]) hx hb dX5_chord_123 hl (k := 3) rfl rfl (by decide) rfl (fun ls hl => ?_)
          refine lv_goto (tgt := 19) hx hb dX5_chord_126 (by decide) ?_
          exact ih (v2 + 0) (v3 + 1) z8.2 z hF _ _ _ hW hS (lv_sub hl [2, 3, 1, 0] rfl) kk
        · rw [if_neg c9] at hF
          refine lv_iconst (v := 1) hx hb dX5_chord_116 (by decide) ?_
          refine lv_goto (tgt := 121) hx hb dX5_chord_117 (by decide) ?_
          refine lv_iadd hx hb dX5_chord_121 ?_
          refine lv_istore_n (lv' := [(2, .int (v2 + 1)), (0, .ref (h.2.2 20 0)), (1, .int v1), (3, .int v3), (4, .int z8.1)]) hx hb dX5_chord_122 rfl hl (by decide) rfl (fun ls hl => ?_)
          refine lv_iinc (v := v3 + 1) (lv' := [(3, .int (v3 + 1)), (2, .int (v2 + 1)), (0, .ref (h.2.2 20 0)), (1, .int v1), (4, .int z8.1)]) hx hb dX5_chord_123 hl (k := 3) rfl rfl (by decide) rfl (fun ls hl => ?_)
          refine lv_goto (tgt := 19) hx hb dX5_chord_126 (by decide) ?_
          exact ih (v2 + 1) (v3 + 1) z8.2 z hF _ _ _ hW hS (lv_sub hl [2, 3, 1, 0] rfl) kk
      · rw [if_pos c3] at hF
        refine lv_iconst (v := 1) hx hb dX5_chord_39 (by decide) ?_
        refine lv_goto (tgt := 44) hx hb dX5_chord_40 (by decide) ?_
        refine lv_istore (lv' := [(4, .int 1), (0, .ref (h.2.2 20 0)), (1, .int v1), (2, .int v2), (3, .int v3)]) hx hb dX5_chord_44 hl (by decide) rfl (fun ls hl => ?_)
        refine lv_iconst (v := 0) hx hb dX5_chord_46 (by decide) ?_
        refine lv_istore (lv' := [(5, .int 0), (4, .int 1), (0, .ref (h.2.2 20 0)), (1, .int v1), (2, .int v2), (3, .int v3)]) hx hb dX5_chord_47 hl (by decide) rfl (fun ls hl => ?_)
        obtain ⟨z10, hz10, hF⟩ := bnd hF
        refine lX5_chord_49 C0 hlo hK hZ v1 v2 v3  _ 1 0 _ z10 hz10 _ _ _ hW hS (lv_sub hl [2, 3, 4, 5, 1, 0] rfl) (fun H locs ls hW hS hl => ?_)
        refine lv_iload_n hx hb dX5_chord_110 rfl (lv_at hl 2 rfl) ?_
        refine lv_iload hx hb dX5_chord_111 (lv_at hl 4 rfl) ?_
        refine lv_if_eq (tgt := 120) hx hb dX5_chord_113 (by decide) (fun c11 => ?_) (fun c11 => ?_)
        · rw [if_pos c11] at hF
          refine lv_iconst (v := 0) hx hb dX5_chord_120 (by decide) ?_
          refine lv_iadd hx hb dX5_chord_121 ?_
          refine lv_istore_n (lv' := [(2, .int (v2 + 0)), (0, .ref (h.2.2 20 0)), (1, .int v1), (3, .int v3), (4, .int z10.1)]) hx hb dX5_chord_122 rfl hl (by decide) rfl (fun ls hl => ?_)
          refine lv_iinc (v := v3 + 1) (lv' := [(3, .int (v3 + 1)), (2, .int (v2 + 0)), (0, .ref (h.2.2 20 0)), (1, .int v1), (4, .int z10.1)]) hx hb dX5_chord_123 hl (k := 3) rfl rfl (by decide) rfl (fun ls hl => ?_)
          refine lv_goto (tgt := 19) hx hb dX5_chord_126 (by decide) ?_
          exact ih (v2 + 0) (v3 + 1) z10.2 z hF _ _ _ hW hS (lv_sub hl [2, 3, 1, 0] rfl) kk
        · rw [if_neg c11] at hF
          refine lv_iconst (v := 1) hx hb dX5_chord_116 (by decide) ?_
          refine lv_goto (tgt := 121) hx hb dX5_chord_117 (by decide) ?_
          refine lv_iadd hx hb dX5_chord_121 ?_
          refine lv_istore_n (lv' := [(2, .int (v2 + 1)), (0, .ref (h.2.2 20 0)), (1, .int v1), (3, .int v3), (4, .int z10.1)]) hx hb dX5_chord_122 rfl hl (by decide) rfl (fun ls hl => ?_)
          refine lv_iinc (v := v3 + 1) (lv' := [(3, .int (v3 + 1)), (2, .int (v2 + 1)), (0, .ref (h.2.2 20 0)), (1, .int v1), (4, .int z10.1)]) hx hb dX5_chord_123 hl (k := 3) rfl rfl (by decide) rfl (fun ls hl => ?_)
          refine lv_goto (tgt := 19) hx hb dX5_chord_126 (by decide) ?_
          exact ih (v2 + 1) (v3 + 1) z10.2 z hF _ _ _ hW hS (lv_sub hl [2, 3, 1, 0] rfl) kk
set_option maxHeartbeats 4000000 in
set_option maxRecDepth 100000 in
theorem kX5_chord (l : Launch) (lo : Nat) (g : Gx) (h : Sh) (σ : Sg) (a1 : Int32)  (r : Int32) (σ1 : Sg) (hF : FX5_chord h.1 h.2.1 σ a1 = some (r, σ1)) : MI l yX5_chord (ws_ yX5_chord cX5_chord 6 (some .int)) 1 21 0 0 lo g h [.ref (h.2.2 20 0), .int a1] σ r σ1 := by
  refine ofB (own := RX5) (by decide +kernel) rfl (fun p e s m below meth c C0 hr hlk hlo hK hZ hW hS ls hl => ?_) (Nat.le_of_ble_eq_true rfl)
  have hx := C0.1
  have hb := C0.2.1
  have hl : lv_has ls 6 [(0, .ref (h.2.2 20 0)), (1, .int a1)] := hl
  unfold FX5_chord at hF
  refine lv_aload_n hx hb dX5_chord_0 rfl (lv_at hl 0 rfl) ?_
  refine lv_iconst (v := 0) hx hb dX5_chord_1 (by decide) ?_
  refine put20_0 C0 hK hW hS 0 (al20 h 20 (by decide)) wFL_X5_38 dX5_chord_2 (fun H locs hW hS => ?_)
  refine lv_iload_n hx hb dX5_chord_5 rfl (lv_at hl 1 rfl) ?_
  refine lv_if_ge (tgt := 15) hx hb dX5_chord_6 (by decide) (fun c1 => ?_) (fun c1 => ?_)
  · rw [if_pos c1] at hF
    refine lv_iconst (v := 0) hx hb dX5_chord_15 (by decide) ?_
    refine lv_istore_n (lv' := [(2, .int 0), (0, .ref (h.2.2 20 0)), (1, .int a1)]) hx hb dX5_chord_16 rfl hl (by decide) rfl (fun ls hl => ?_)
    refine lv_iconst (v := 0) hx hb dX5_chord_17 (by decide) ?_
    refine lv_istore_n (lv' := [(3, .int 0), (2, .int 0), (0, .ref (h.2.2 20 0)), (1, .int a1)]) hx hb dX5_chord_18 rfl hl (by decide) rfl (fun ls hl => ?_)
    obtain ⟨z12, hz12, hF⟩ := bnd hF
    refine lX5_chord_19 C0 hlo hK hZ a1  _ 0 0 _ z12 hz12 _ _ _ hW hS (lv_sub hl [2, 3, 1, 0] rfl) (fun H locs ls hW hS hl => ?_)
    refine lv_iload_n hx hb dX5_chord_129 rfl (lv_at hl 0 rfl) ?_
    cases hF
    exact retI C0 hr hlk hW hS dX5_chord_130
  · rw [if_neg c1] at hF
    refine lv_aload_n hx hb dX5_chord_9 rfl (lv_at hl 0 rfl) ?_
    refine lv_iconst (v := 1) hx hb dX5_chord_10 (by decide) ?_
    obtain ⟨z13, hz13, hF⟩ := bnd hF
    refine inI (runV C0 hlo hK hZ hW hS (kX5_fail l lo g h _ 1  _ _ hz13) wCO_X5_fail wML_X5_52 wIM_X5_fail wSE_X5_X5_fail wIN_X5 hdX5_fail ⟨Nat.le_of_ble_eq_true rfl, Nat.le_of_ble_eq_true rfl⟩ (recvK hK hW (al20 h 20 (by decide)) (ct20 0) rfl) rfl hl.1 rfl (Nat.le_of_ble_eq_true rfl) dX5_chord_11 ⟨Nat.le_of_ble_eq_true rfl, Nat.le_of_ble_eq_true rfl⟩) hS (fun H locs hW hS => ?_)
    cases hF
    exact retI C0 hr hlk hW hS dX5_chord_14
theorem hdX5_longest : yX5_longest.cls = RX5 ∧ yX5_longest.cls ≠ "java/lang/invoke/MethodHandle" ∧ yX5_longest.cls ≠ "java/lang/invoke/VarHandle" ∧ (parseMethodDescriptor yX5_longest.desc).map (fun d => d.parameters.length) = some 0 := by decide +kernel
def LX5_longest_11 (ns nb : Nat) : Nat → Int32 → Int32 → Int32 → Sg → Option (Int32 × Sg)
  | 0, _, _, _, _ => none
  | n + 1, v1, v2, v3, σ => if (σ.1 20 0 11) ≤ v3 then (some (v1, σ)) else (if v3 ≤ 0 then (LX5_longest_11 ns nb  n (mxI v1 1) 1 (v3 + 1) σ) else (if (((4 * v3) + 1) < 0 ∨ 1000 ≤ ((4 * v3) + 1).toNatClampNeg) then none else (if (((4 * v3) - 3) < 0 ∨ 1000 ≤ ((4 * v3) - 3).toNatClampNeg) then none else (if (σ.1 27 0 ((4 * v3) + 1).toNatClampNeg) = (σ.1 27 0 ((4 * v3) - 3).toNatClampNeg) then (LX5_longest_11 ns nb  n (mxI v1 (v2 + 1)) (v2 + 1) (v3 + 1) σ) else (LX5_longest_11 ns nb  n (mxI v1 1) 1 (v3 + 1) σ)))))
def FX5_longest (ns nb : Nat) (σ : Sg)  : Option (Int32 × Sg) :=
  (LX5_longest_11 ns nb  4100 0 0 0 (sI σ 20 0 0 0)).bind fun z4 => some (z4.1, z4.2)
set_option maxHeartbeats 4000000 in
set_option maxRecDepth 100000 in
theorem lX5_longest_11 {p : Program} {l : Launch} {e : Env} {s : State} {m : MethodId} {args : Array Value} {below : List Frame} {meth : Method} {c : Code} {Q : State → Prop} {lo : Nat} {g : Gx} {h : Sh} (C0 : CallFix p m c cX5_longest 4 s args wB RX5) (hlo : lo ≤ s.heap.size) (hK : KW g s) (hZ : ZW lo s s.heap)   : ∀ (n : Nat) (v1 : Int32) (v2 : Int32) (v3 : Int32) (σ : Sg) (z : (Int32 × Sg)) (hF : LX5_longest_11 h.1 h.2.1  n v1 v2 v3 σ = some z) (H : Heap) (locs : List Loc) (ls : Array Slot) (hW : FW g h (Ax lo) σ H) (hS : va_S (Ax lo) s.heap H locs) (hl : lv_has ls 4 [(0, .ref (h.2.2 20 0)), (1, .int v1), (2, .int v2), (3, .int v3)]) (kk : ∀ (H : Heap) (locs : List Loc) (ls : Array Slot), FW g h (Ax lo) z.2 H → va_S (Ax lo) s.heap H locs → lv_has ls 4 [(1, .int z.1)] → W p l e { frames := 1, cells := 0, slots := 0, locals := 23 } s m args below meth c H locs 0 0 Q (F0 m 66 ls [])), W p l e { frames := 1, cells := 0, slots := 0, locals := 23 } s m args below meth c H locs 0 0 Q (F0 m 11 ls []) := by
  have hx := C0.1
  have hb := C0.2.1
  intro n
  induction n with
  | zero =>
    intro v1 v2 v3 σ z hF
    rw [LX5_longest_11] at hF
    cases hF
  | succ n ih =>
    intro v1 v2 v3 σ z hF H locs ls hW hS hl kk
    rw [LX5_longest_11] at hF
    refine lv_iload_n hx hb dX5_longest_11 rfl (lv_at hl 3 rfl) ?_
    refine lv_aload_n hx hb dX5_longest_12 rfl (lv_at hl 0 rfl) ?_
    refine get20 C0 hK hW 0 (al20 h 20 (by decide)) 11 (by decide) wFL_X5_119 rfl rfl dX5_longest_13 ?_
    refine lv_icmp_ge (tgt := 66) hx hb dX5_longest_16 (by decide) (fun c1 => ?_) (fun c1 => ?_)
    · rw [if_pos c1] at hF
      cases hF
      exact kk _ _ _ hW hS (lv_sub hl [1] rfl)
    · rw [if_neg c1] at hF
      refine lv_iload_n hx hb dX5_longest_19 rfl (lv_at hl 3 rfl) ?_
      refine lv_if_le (tgt := 52) hx hb dX5_longest_20 (by decide) (fun c2 => ?_) (fun c2 => ?_)
      · rw [if_pos c2] at hF
        refine lv_iconst (v := 1) hx hb dX5_longest_52 (by decide) ?_
        refine lv_istore_n (lv' := [(2, .int 1), (0, .ref (h.2.2 20 0)), (1, .int v1), (3, .int v3)]) hx hb dX5_longest_53 rfl hl (by decide) rfl (fun ls hl => ?_)
        refine lv_iload_n hx hb dX5_longest_54 rfl (lv_at hl 2 rfl) ?_
        refine lv_iload_n hx hb dX5_longest_55 rfl (lv_at hl 0 rfl) ?_
        refine r_max C0 hl.1 wML_X5_70 (Nat.le_of_ble_eq_true rfl) (Nat.le_of_ble_eq_true rfl) (Nat.le_of_ble_eq_true rfl) (Nat.le_of_ble_eq_true rfl) dX5_longest_56 ?_
        refine lv_istore_n (lv' := [(1, .int (mxI v1 1)), (2, .int 1), (0, .ref (h.2.2 20 0)), (3, .int v3)]) hx hb dX5_longest_59 rfl hl (by decide) rfl (fun ls hl => ?_)
        refine lv_iinc (v := v3 + 1) (lv' := [(3, .int (v3 + 1)), (1, .int (mxI v1 1)), (2, .int 1), (0, .ref (h.2.2 20 0))]) hx hb dX5_longest_60 hl (k := 3) rfl rfl (by decide) rfl (fun ls hl => ?_)
        refine lv_goto (tgt := 11) hx hb dX5_longest_63 (by decide) ?_
        exact ih (mxI v1 1) 1 (v3 + 1) σ z hF _ _ _ hW hS (lv_sub hl [3, 1, 2, 0] rfl) kk
      · rw [if_neg c2] at hF
        refine lv_aload_n hx hb dX5_longest_23 rfl (lv_at hl 0 rfl) ?_
        refine get20 C0 hK hW 0 (al20 h 20 (by decide)) 12 (by decide) wFL_X5_29 rfl rfl dX5_longest_24 ?_
        refine lv_iconst (v := 4) hx hb dX5_longest_27 (by decide) ?_
        refine lv_iload_n hx hb dX5_longest_28 rfl (lv_at hl 3 rfl) ?_
        refine lv_imul hx hb dX5_longest_29 ?_
        refine lv_iconst (v := 1) hx hb dX5_longest_30 (by decide) ?_
        refine lv_iadd hx hb dX5_longest_31 ?_
        obtain ⟨hg, hF⟩ := grd hF
        refine ald C0 hK hW 27 0 (al20 h 27 (by decide)) (by decide) hg dX5_longest_32 ?_
        refine lv_aload_n hx hb dX5_longest_33 rfl (lv_at hl 0 rfl) ?_
        refine get20 C0 hK hW 0 (al20 h 20 (by decide)) 12 (by decide) wFL_X5_29 rfl rfl dX5_longest_34 ?_
        refine lv_iconst (v := 4) hx hb dX5_longest_37 (by decide) ?_
        refine lv_iload_n hx hb dX5_longest_38 rfl (lv_at hl 3 rfl) ?_
        refine lv_imul hx hb dX5_longest_39 ?_
        refine lv_iconst (v := 3) hx hb dX5_longest_40 (by decide) ?_
        refine lv_isub hx hb dX5_longest_41 ?_
        obtain ⟨hg, hF⟩ := grd hF
        refine ald C0 hK hW 27 0 (al20 h 27 (by decide)) (by decide) hg dX5_longest_42 ?_
        refine lv_icmp_ne (tgt := 52) hx hb dX5_longest_43 (by decide) (fun c3 => ?_) (fun c3 => ?_)
        · rw [if_neg c3] at hF
          refine lv_iconst (v := 1) hx hb dX5_longest_52 (by decide) ?_
          refine lv_istore_n (lv' := [(2, .int 1), (0, .ref (h.2.2 20 0)), (1, .int v1), (3, .int v3)]) hx hb dX5_longest_53 rfl hl (by decide) rfl (fun ls hl => ?_)
          refine lv_iload_n hx hb dX5_longest_54 rfl (lv_at hl 2 rfl) ?_
          refine lv_iload_n hx hb dX5_longest_55 rfl (lv_at hl 0 rfl) ?_
          refine r_max C0 hl.1 wML_X5_70 (Nat.le_of_ble_eq_true rfl) (Nat.le_of_ble_eq_true rfl) (Nat.le_of_ble_eq_true rfl) (Nat.le_of_ble_eq_true rfl) dX5_longest_56 ?_
          refine lv_istore_n (lv' := [(1, .int (mxI v1 1)), (2, .int 1), (0, .ref (h.2.2 20 0)), (3, .int v3)]) hx hb dX5_longest_59 rfl hl (by decide) rfl (fun ls hl => ?_)
          refine lv_iinc (v := v3 + 1) (lv' := [(3, .int (v3 + 1)), (1, .int (mxI v1 1)), (2, .int 1), (0, .ref (h.2.2 20 0))]) hx hb dX5_longest_60 hl (k := 3) rfl rfl (by decide) rfl (fun ls hl => ?_)
          refine lv_goto (tgt := 11) hx hb dX5_longest_63 (by decide) ?_
          exact ih (mxI v1 1) 1 (v3 + 1) σ z hF _ _ _ hW hS (lv_sub hl [3, 1, 2, 0] rfl) kk
        · rw [if_pos c3] at hF
          refine lv_iload_n hx hb dX5_longest_46 rfl (lv_at hl 2 rfl) ?_
          refine lv_iconst (v := 1) hx hb dX5_longest_47 (by decide) ?_
          refine lv_iadd hx hb dX5_longest_48 ?_
          refine lv_goto (tgt := 53) hx hb dX5_longest_49 (by decide) ?_
          refine lv_istore_n (lv' := [(2, .int (v2 + 1)), (0, .ref (h.2.2 20 0)), (1, .int v1), (3, .int v3)]) hx hb dX5_longest_53 rfl hl (by decide) rfl (fun ls hl => ?_)
          refine lv_iload_n hx hb dX5_longest_54 rfl (lv_at hl 2 rfl) ?_
          refine lv_iload_n hx hb dX5_longest_55 rfl (lv_at hl 0 rfl) ?_
          refine r_max C0 hl.1 wML_X5_70 (Nat.le_of_ble_eq_true rfl) (Nat.le_of_ble_eq_true rfl) (Nat.le_of_ble_eq_true rfl) (Nat.le_of_ble_eq_true rfl) dX5_longest_56 ?_
          refine lv_istore_n (lv' := [(1, .int (mxI v1 (v2 + 1))), (2, .int (v2 + 1)), (0, .ref (h.2.2 20 0)), (3, .int v3)]) hx hb dX5_longest_59 rfl hl (by decide) rfl (fun ls hl => ?_)
          refine lv_iinc (v := v3 + 1) (lv' := [(3, .int (v3 + 1)), (1, .int (mxI v1 (v2 + 1))), (2, .int (v2 + 1)), (0, .ref (h.2.2 20 0))]) hx hb dX5_longest_60 hl (k := 3) rfl rfl (by decide) rfl (fun ls hl => ?_)
          refine lv_goto (tgt := 11) hx hb dX5_longest_63 (by decide) ?_
          exact ih (mxI v1 (v2 + 1)) (v2 + 1) (v3 + 1) σ z hF _ _ _ hW hS (lv_sub hl [3, 1, 2, 0] rfl) kk
set_option maxHeartbeats 4000000 in
set_option maxRecDepth 100000 in
theorem kX5_longest (l : Launch) (lo : Nat) (g : Gx) (h : Sh) (σ : Sg)   (r : Int32) (σ1 : Sg) (hF : FX5_longest h.1 h.2.1 σ  = some (r, σ1)) : MI l yX5_longest (ws_ yX5_longest cX5_longest 4 (some .int)) 1 23 0 0 lo g h [.ref (h.2.2 20 0)] σ r σ1 := by
  refine ofB (own := RX5) (by decide +kernel) rfl (fun p e s m below meth c C0 hr hlk hlo hK hZ hW hS ls hl => ?_) (Nat.le_of_ble_eq_true rfl)
  have hx := C0.1
  have hb := C0.2.1
  have hl : lv_has ls 4 [(0, .ref (h.2.2 20 0))] := hl
  unfold FX5_longest at hF
  refine lv_aload_n hx hb dX5_longest_0 rfl (lv_at hl 0 rfl) ?_
  refine lv_iconst (v := 0) hx hb dX5_longest_1 (by decide) ?_
  refine put20_0 C0 hK hW hS 0 (al20 h 20 (by decide)) wFL_X5_38 dX5_longest_2 (fun H locs hW hS => ?_)
  refine lv_iconst (v := 0) hx hb dX5_longest_5 (by decide) ?_
  refine lv_istore_n (lv' := [(1, .int 0), (0, .ref (h.2.2 20 0))]) hx hb dX5_longest_6 rfl hl (by decide) rfl (fun ls hl => ?_)
  refine lv_iconst (v := 0) hx hb dX5_longest_7 (by decide) ?_
  refine lv_istore_n (lv' := [(2, .int 0), (1, .int 0), (0, .ref (h.2.2 20 0))]) hx hb dX5_longest_8 rfl hl (by decide) rfl (fun ls hl => ?_)
  refine lv_iconst (v := 0) hx hb dX5_longest_9 (by decide) ?_
  refine lv_istore_n (lv' := [(3, .int 0), (2, .int 0), (1, .int 0), (0, .ref (h.2.2 20 0))]) hx hb dX5_longest_10 rfl hl (by decide) rfl (fun ls hl => ?_)
  obtain ⟨z4, hz4, hF⟩ := bnd hF
  refine lX5_longest_11 C0 hlo hK hZ   _ 0 0 0 _ z4 hz4 _ _ _ hW hS (lv_sub hl [3, 2, 1, 0] rfl) (fun H locs ls hW hS hl => ?_)
  refine lv_iload_n hx hb dX5_longest_66 rfl (lv_at hl 0 rfl) ?_
  cases hF
  exact retI C0 hr hlk hW hS dX5_longest_67
theorem hdX5_emptySongs : yX5_emptySongs.cls = RX5 ∧ yX5_emptySongs.cls ≠ "java/lang/invoke/MethodHandle" ∧ yX5_emptySongs.cls ≠ "java/lang/invoke/VarHandle" ∧ (parseMethodDescriptor yX5_emptySongs.desc).map (fun d => d.parameters.length) = some 0 := by decide +kernel
def FX5_emptySongs (ns nb : Nat) (σ : Sg)  : Option (Int32 × Sg) :=
  some ((sI σ 20 0 0 0).1 20 0 11, (sI (sI (sI σ 20 0 0 0) 20 0 11 0) 20 0 10 0))
set_option maxHeartbeats 4000000 in
set_option maxRecDepth 100000 in
theorem kX5_emptySongs (l : Launch) (lo : Nat) (g : Gx) (h : Sh) (σ : Sg)   (r : Int32) (σ1 : Sg) (hF : FX5_emptySongs h.1 h.2.1 σ  = some (r, σ1)) : MI l yX5_emptySongs (ws_ yX5_emptySongs cX5_emptySongs 2 (some .int)) 0 0 0 0 lo g h [.ref (h.2.2 20 0)] σ r σ1 := by
  refine ofB (own := RX5) (by decide +kernel) rfl (fun p e s m below meth c C0 hr hlk hlo hK hZ hW hS ls hl => ?_) (Nat.le_of_ble_eq_true rfl)
  have hx := C0.1
  have hb := C0.2.1
  have hl : lv_has ls 2 [(0, .ref (h.2.2 20 0))] := hl
  unfold FX5_emptySongs at hF
  refine lv_aload_n hx hb dX5_emptySongs_0 rfl (lv_at hl 0 rfl) ?_
  refine lv_iconst (v := 0) hx hb dX5_emptySongs_1 (by decide) ?_
  refine put20_0 C0 hK hW hS 0 (al20 h 20 (by decide)) wFL_X5_38 dX5_emptySongs_2 (fun H locs hW hS => ?_)
  refine lv_aload_n hx hb dX5_emptySongs_5 rfl (lv_at hl 0 rfl) ?_
  refine get20 C0 hK hW 0 (al20 h 20 (by decide)) 11 (by decide) wFL_X5_119 rfl rfl dX5_emptySongs_6 ?_
  refine lv_istore_n (lv' := [(1, .int ((sI σ 20 0 0 0).1 20 0 11)), (0, .ref (h.2.2 20 0))]) hx hb dX5_emptySongs_9 rfl hl (by decide) rfl (fun ls hl => ?_)
  refine lv_aload_n hx hb dX5_emptySongs_10 rfl (lv_at hl 1 rfl) ?_
  refine lv_iconst (v := 0) hx hb dX5_emptySongs_11 (by decide) ?_
  refine put20_11 C0 hK hW hS 0 (al20 h 20 (by decide)) wFL_X5_119 dX5_emptySongs_12 (fun H locs hW hS => ?_)
  refine lv_aload_n hx hb dX5_emptySongs_15 rfl (lv_at hl 1 rfl) ?_
  refine lv_iconst (v := 0) hx hb dX5_emptySongs_16 (by decide) ?_
  refine put20_10 C0 hK hW hS 0 (al20 h 20 (by decide)) wFL_X5_116 dX5_emptySongs_17 (fun H locs hW hS => ?_)
  refine lv_iload_n hx hb dX5_emptySongs_20 rfl (lv_at hl 0 rfl) ?_
  cases hF
  exact retI C0 hr hlk hW hS dX5_emptySongs_21
theorem hdX5_isDown : yX5_isDown.cls = RX5 ∧ yX5_isDown.cls ≠ "java/lang/invoke/MethodHandle" ∧ yX5_isDown.cls ≠ "java/lang/invoke/VarHandle" ∧ (parseMethodDescriptor yX5_isDown.desc).map (fun d => d.parameters.length) = some 0 := by decide +kernel
def LX5_isDown_2 (ns nb : Nat) : Nat → Int32 → Sg → Option (Int32 × Sg)
  | 0, _, _ => none
  | n + 1, v1, σ => if (σ.1 20 0 2) ≤ v1 then (some (1, σ)) else ((FX5_sp ns nb σ v1 4).bind fun z2 => if z2.1 = 0 then ((FX5_sp ns nb z2.2 v1 1).bind fun z4 => if z4.1 ≤ 0 then (LX5_isDown_2 ns nb  n (v1 + 1) z4.2) else (some (0, z4.2))) else (LX5_isDown_2 ns nb  n (v1 + 1) z2.2))
def FX5_isDown (ns nb : Nat) (σ : Sg)  : Option (Int32 × Sg) :=
  LX5_isDown_2 ns nb  4100 0 σ
set_option maxHeartbeats 4000000 in
set_option maxRecDepth 100000 in
theorem lX5_isDown_2 {p : Program} {l : Launch} {e : Env} {s : State} {m : MethodId} {args : Array Value} {below : List Frame} {meth : Method} {c : Code} {lo : Nat} {g : Gx} {h : Sh} (C0 : CallFix p m c cX5_isDown 2 s args wB RX5) (hlo : lo ≤ s.heap.size) (hK : KW g s) (hZ : ZW lo s s.heap) (hr : meth.sig.returnType = (some .boolean)) (hlk : meth.locks = false)   : ∀ (n : Nat) (v1 : Int32) (σ : Sg) (z : (Int32 × Sg)) (hF : LX5_isDown_2 h.1 h.2.1  n v1 σ = some z) (H : Heap) (locs : List Loc) (ls : Array Slot) (hW : FW g h (Ax lo) σ H) (hS : va_S (Ax lo) s.heap H locs) (hl : lv_has ls 2 [(0, .ref (h.2.2 20 0)), (1, .int v1)]), W p l e { frames := 1, cells := 0, slots := 0, locals := 22 } s m args below meth c H locs 0 0 (MQ below (va_Qi (fun (r' : Int32) (_ : Unit) => r' = z.1) (fun _ t => FW g h (Ax lo) z.2 t.heap) (Ax lo)) args s 0 0 (Ax lo)) (F0 m 2 ls []) := by
  have hx := C0.1
  have hb := C0.2.1
  intro n
  induction n with
  | zero =>
    intro v1 σ z hF
    rw [LX5_isDown_2] at hF
    cases hF
  | succ n ih =>
    intro v1 σ z hF H locs ls hW hS hl
    rw [LX5_isDown_2] at hF
    refine lv_iload_n hx hb dX5_isDown_2 rfl (lv_at hl 1 rfl) ?_
    refine lv_aload_n hx hb dX5_isDown_3 rfl (lv_at hl 0 rfl) ?_
    refine get20 C0 hK hW 0 (al20 h 20 (by decide)) 2 (by decide) wFL_X5_42 rfl rfl dX5_isDown_4 ?_
    refine lv_icmp_ge (tgt := 36) hx hb dX5_isDown_7 (by decide) (fun c1 => ?_) (fun c1 => ?_)
    · rw [if_pos c1] at hF
      refine lv_iconst (v := 1) hx hb dX5_isDown_36 (by decide) ?_
      cases hF
      exact retZ C0 hr hlk (Or.inr rfl) hW hS dX5_isDown_37
    · rw [if_neg c1] at hF
      refine lv_aload_n hx hb dX5_isDown_10 rfl (lv_at hl 0 rfl) ?_
      refine lv_iload_n hx hb dX5_isDown_11 rfl (lv_at hl 1 rfl) ?_
      refine lv_iconst (v := 4) hx hb dX5_isDown_12 (by decide) ?_
      obtain ⟨z2, hz2, hF⟩ := bnd hF
      refine inI (runV C0 hlo hK hZ hW hS (kX5_sp l lo g h _ v1 4  _ _ hz2) wCO_X5_sp wML_X5_67 wIM_X5_sp wSE_X5_X5_sp wIN_X5 hdX5_sp ⟨Nat.le_of_ble_eq_true rfl, Nat.le_of_ble_eq_true rfl⟩ (recvK hK hW (al20 h 20 (by decide)) (ct20 0) rfl) rfl hl.1 rfl (Nat.le_of_ble_eq_true rfl) dX5_isDown_13 ⟨Nat.le_of_ble_eq_true rfl, Nat.le_of_ble_eq_true rfl⟩) hS (fun H locs hW hS => ?_)
      refine lv_if_ne (tgt := 30) hx hb dX5_isDown_16 (by decide) (fun c3 => ?_) (fun c3 => ?_)
      · rw [if_neg c3] at hF
        refine lv_iinc (v := v1 + 1) (lv' := [(1, .int (v1 + 1)), (0, .ref (h.2.2 20 0))]) hx hb dX5_isDown_30 hl (k := 1) rfl rfl (by decide) rfl (fun ls hl => ?_)
        refine lv_goto (tgt := 2) hx hb dX5_isDown_33 (by decide) ?_
        exact ih (v1 + 1) z2.2 _ hF _ _ _ hW hS (lv_sub hl [1, 0] rfl)
      · rw [if_pos c3] at hF
        refine lv_aload_n hx hb dX5_isDown_19 rfl (lv_at hl 0 rfl) ?_
        refine lv_iload_n hx hb dX5_isDown_20 rfl (lv_at hl 1 rfl) ?_
        refine lv_iconst (v := 1) hx hb dX5_isDown_21 (by decide) ?_
        obtain ⟨z4, hz4, hF⟩ := bnd hF
        refine inI (runV C0 hlo hK hZ hW hS (kX5_sp l lo g h _ v1 1  _ _ hz4) wCO_X5_sp wML_X5_67 wIM_X5_sp wSE_X5_X5_sp wIN_X5 hdX5_sp ⟨Nat.le_of_ble_eq_true rfl, Nat.le_of_ble_eq_true rfl⟩ (recvK hK hW (al20 h 20 (by decide)) (ct20 0) rfl) rfl hl.1 rfl (Nat.le_of_ble_eq_true rfl) dX5_isDown_22 ⟨Nat.le_of_ble_eq_true rfl, Nat.le_of_ble_eq_true rfl⟩) hS (fun H locs hW hS => ?_)
        refine lv_if_le (tgt := 30) hx hb dX5_isDown_25 (by decide) (fun c5 => ?_) (fun c5 => ?_)
        · rw [if_pos c5] at hF
          refine lv_iinc (v := v1 + 1) (lv' := [(1, .int (v1 + 1)), (0, .ref (h.2.2 20 0))]) hx hb dX5_isDown_30 hl (k := 1) rfl rfl (by decide) rfl (fun ls hl => ?_)
          refine lv_goto (tgt := 2) hx hb dX5_isDown_33 (by decide) ?_
          exact ih (v1 + 1) z4.2 _ hF _ _ _ hW hS (lv_sub hl [1, 0] rfl)
        · rw [if_neg c5] at hF
          refine lv_iconst (v := 0) hx hb dX5_isDown_28 (by decide) ?_
          cases hF
          exact retZ C0 hr hlk (Or.inl rfl) hW hS dX5_isDown_29
set_option maxHeartbeats 4000000 in
set_option maxRecDepth 100000 in
theorem kX5_isDown (l : Launch) (lo : Nat) (g : Gx) (h : Sh) (σ : Sg)   (r : Int32) (σ1 : Sg) (hF : FX5_isDown h.1 h.2.1 σ  = some (r, σ1)) : MI l yX5_isDown (ws_ yX5_isDown cX5_isDown 2 (some .boolean)) 1 22 0 0 lo g h [.ref (h.2.2 20 0)] σ r σ1 := by
  refine ofB (own := RX5) (by decide +kernel) rfl (fun p e s m below meth c C0 hr hlk hlo hK hZ hW hS ls hl => ?_) (Nat.le_of_ble_eq_true rfl)
  have hx := C0.1
  have hb := C0.2.1
  have hl : lv_has ls 2 [(0, .ref (h.2.2 20 0))] := hl
  unfold FX5_isDown at hF
  refine lv_iconst (v := 0) hx hb dX5_isDown_0 (by decide) ?_
  refine lv_istore_n (lv' := [(1, .int 0), (0, .ref (h.2.2 20 0))]) hx hb dX5_isDown_1 rfl hl (by decide) rfl (fun ls hl => ?_)
  exact lX5_isDown_2 C0 hlo hK hZ hr hlk   _ 0 _ (r, σ1) hF _ _ _ hW hS (lv_sub hl [1, 0] rfl)
theorem hdX5_digest : yX5_digest.cls = RX5 ∧ yX5_digest.cls ≠ "java/lang/invoke/MethodHandle" ∧ yX5_digest.cls ≠ "java/lang/invoke/VarHandle" ∧ (parseMethodDescriptor yX5_digest.desc).map (fun d => d.parameters.length) = some 0 := by decide +kernel
def LX5_digest_11 (ns nb : Nat) : Nat → Int64 → Int32 → Sg → Option (Int64 × Sg)
  | 0, _, _, _ => none
  | n + 1, v1, v3, σ => if 6 ≤ v3 then (some (v1, σ)) else ((FX5_counted ns nb σ v3).bind fun z2 => LX5_digest_11 ns nb  n ((v1 * 31) + z2.1.toInt64) (v3 + 1) z2.2)
def LX5_digest_49 (ns nb : Nat) (v3 : Int32) : Nat → Int64 → Int32 → Sg → Option (Int64 × Sg)
  | 0, _, _, _ => none
  | n + 1, v1, v4, σ => if 7 ≤ v4 then (some (v1, σ)) else ((FX5_springTold ns nb σ v3 v4).bind fun z6 => LX5_digest_49 ns nb v3 n ((v1 * 31) + z6.1.toInt64) (v4 + 1) z6.2)
def LX5_digest_38 (ns nb : Nat) : Nat → Int64 → Int32 → Sg → Option (Int64 × Sg)
  | 0, _, _, _ => none
  | n + 1, v1, v3, σ => if (σ.1 20 0 2) ≤ v3 then (some (v1, σ)) else ((LX5_digest_49 ns nb v3 4100 v1 0 σ).bind fun z7 => LX5_digest_38 ns nb  n z7.1 (v3 + 1) z7.2)
def LX5_digest_96 (ns nb : Nat) (v3 : Int32) : Nat → Int64 → Int32 → Sg → Option (Int64 × Sg)
  | 0, _, _, _ => none
  | n + 1, v1, v4, σ => if 10 ≤ v4 then (some (v1, σ)) else ((FX5_get ns nb σ v3 v4).bind fun z11 => LX5_digest_96 ns nb v3 n ((v1 * 31) + z11.1.toInt64) (v4 + 1) z11.2)
def LX5_digest_127 (ns nb : Nat) (v3 : Int32) : Nat → Int64 → Int32 → Sg → Option (Int64 × Sg)
  | 0, _, _, _ => none
  | n + 1, v1, v4, σ => if 6 ≤ v4 then (some (v1, σ)) else (if (((6 * v3) + v4) < 0 ∨ 48 ≤ ((6 * v3) + v4).toNatClampNeg) then none else (LX5_digest_127 ns nb v3 n ((v1 * 31) + ((σ.1 25 0 ((6 * v3) + v4).toNatClampNeg).toInt64)) (v4 + 1) σ))
def LX5_digest_163 (ns nb : Nat) (v3 : Int32) : Nat → Int64 → Int32 → Sg → Option (Int64 × Sg)
  | 0, _, _, _ => none
  | n + 1, v1, v4, σ => if 3 ≤ v4 then (some (v1, σ)) else ((FX5_get ns nb σ v3 5).bind fun z16 => (FX5_liftAt ns nb z16.2 v3 v4 z16.1).bind fun z17 => LX5_digest_163 ns nb v3 n ((v1 * 31) + z17.1.toInt64) (v4 + 1) z17.2)
def LX5_digest_85 (ns nb : Nat) : Nat → Int64 → Int32 → Sg → Option (Int64 × Sg)
  | 0, _, _, _ => none
  | n + 1, v1, v3, σ => if (σ.1 20 0 3) ≤ v3 then (some (v1, σ)) else ((LX5_digest_96 ns nb v3 4100 v1 0 σ).bind fun z12 => (LX5_digest_127 ns nb v3 4100 z12.1 0 z12.2).bind fun z14 => (LX5_digest_163 ns nb v3 4100 z14.1 0 z14.2).bind fun z18 => LX5_digest_85 ns nb  n z18.1 (v3 + 1) z18.2)
def LX5_digest_204 (ns nb : Nat) : Nat → Int64 → Int32 → Sg → Option (Int64 × Sg)
  | 0, _, _, _ => none
  | n + 1, v1, v3, σ => if (4 * (σ.1 20 0 11)) ≤ v3 then (some (v1, σ)) else (if (v3 < 0 ∨ 1000 ≤ v3.toNatClampNeg) then none else (LX5_digest_204 ns nb  n ((v1 * 31) + ((σ.1 27 0 v3.toNatClampNeg).toInt64)) (v3 + 1) σ))
def FX5_digest (ns nb : Nat) (σ : Sg)  : Option (Int64 × Sg) :=
  (LX5_digest_11 ns nb  4100 449 0 (sI σ 20 0 0 0)).bind fun z3 => (LX5_digest_38 ns nb  4100 z3.1 0 z3.2).bind fun z8 => (LX5_digest_85 ns nb  4100 z8.1 0 z8.2).bind fun z19 => (LX5_digest_204 ns nb  4100 z19.1 0 z19.2).bind fun z21 => some (z21.1, z21.2)
set_option maxHeartbeats 4000000 in
set_option maxRecDepth 100000 in
theorem lX5_digest_11 {p : Program} {l : Launch} {e : Env} {s : State} {m : MethodId} {args : Array Value} {below : List Frame} {meth : Method} {c : Code} {Q : State → Prop} {lo : Nat} {g : Gx} {h : Sh} (C0 : CallFix p m c cX5_digest 5 s args wB RX5) (hlo : lo ≤ s.heap.size) (hK : KW g s) (hZ : ZW lo s s.heap)   : ∀ (n : Nat) (v1 : Int64) (v3 : Int32) (σ : Sg) (z : (Int64 × Sg)) (hF : LX5_digest_11 h.1 h.2.1  n v1 v3 σ = some z) (H : Heap) (locs : List Loc) (ls : Array Slot) (hW : FW g h (Ax lo) σ H) (hS : va_S (Ax lo) s.heap H locs) (hl : lv_has ls 5 [(0, .ref (h.2.2 20 0)), (1, .long v1), (3, .int v3)]) (kk : ∀ (H : Heap) (locs : List Loc) (ls : Array Slot), FW g h (Ax lo) z.2 H → va_S (Ax lo) s.heap H locs → lv_has ls 5 [(0, .ref (h.2.2 20 0)), (1, .long z.1)] → W p l e { frames := 4, cells := 0, slots := 0, locals := 100 } s m args below meth c H locs 0 0 Q (F0 m 36 ls [])), W p l e { frames := 4, cells := 0, slots := 0, locals := 100 } s m args below meth c H locs 0 0 Q (F0 m 11 ls []) := by
  have hx := C0.1
  have hb := C0.2.1
  intro n
  induction n with
  | zero =>
    intro v1 v3 σ z hF
    rw [LX5_digest_11] at hF
    cases hF
  | succ n ih =>
    intro v1 v3 σ z hF H locs ls hW hS hl kk
    rw [LX5_digest_11] at hF
    refine lv_iload_n hx hb dX5_digest_11 rfl (lv_at hl 2 rfl) ?_
    refine lv_bipush (v := 6) hx hb dX5_digest_12 (by decide) ?_
    refine lv_icmp_ge (tgt := 36) hx hb dX5_digest_14 (by decide) (fun c1 => ?_) (fun c1 => ?_)
    · rw [if_pos c1] at hF
      cases hF
      exact kk _ _ _ hW hS (lv_sub hl [0, 1] rfl)
    · rw [if_neg c1] at hF
      refine lv_lload_n hx hb dX5_digest_17 rfl (lv_at hl 1 rfl) ?_
      refine lv_ldc2 hx hb C0.2.2.2.1 (C0.2.2.2.2 _ wconstantLong_X5_150) dX5_digest_18 ?_
      refine lv_lmul hx hb dX5_digest_21 ?_
      refine lv_aload_n hx hb dX5_digest_22 rfl (lv_at hl 0 rfl) ?_
      refine lv_iload_n hx hb dX5_digest_23 rfl (lv_at hl 2 rfl) ?_
      obtain ⟨z2, hz2, hF⟩ := bnd hF
      refine inI (runV C0 hlo hK hZ hW hS (kX5_counted l lo g h _ v3  _ _ hz2) wCO_X5_counted wML_X5_141 wIM_X5_counted wSE_X5_X5_counted wIN_X5 hdX5_counted ⟨Nat.le_of_ble_eq_true rfl, Nat.le_of_ble_eq_true rfl⟩ (recvK hK hW (al20 h 20 (by decide)) (ct20 0) rfl) rfl hl.1 rfl (Nat.le_of_ble_eq_true rfl) dX5_digest_24 ⟨Nat.le_of_ble_eq_true rfl, Nat.le_of_ble_eq_true rfl⟩) hS (fun H locs hW hS => ?_)
      refine lv_i2l hx hb dX5_digest_27 rfl ?_
      refine lv_ladd hx hb dX5_digest_28 ?_
      refine lv_lstore_n (lv' := [(1, .long ((v1 * 31) + z2.1.toInt64)), (0, .ref (h.2.2 20 0)), (3, .int v3)]) hx hb dX5_digest_29 rfl hl (by decide) rfl (fun ls hl => ?_)
      refine lv_iinc (v := v3 + 1) (lv' := [(3, .int (v3 + 1)), (1, .long ((v1 * 31) + z2.1.toInt64)), (0, .ref (h.2.2 20 0))]) hx hb dX5_digest_30 hl (k := 2) rfl rfl (by decide) rfl (fun ls hl => ?_)
      refine lv_goto (tgt := 11) hx hb dX5_digest_33 (by decide) ?_
      exact ih ((v1 * 31) + z2.1.toInt64) (v3 + 1) z2.2 z hF _ _ _ hW hS (lv_sub hl [2, 1, 0] rfl) kk
set_option maxHeartbeats 4000000 in
set_option maxRecDepth 100000 in
theorem lX5_digest_49 {p : Program} {l : Launch} {e : Env} {s : State} {m : MethodId} {args : Array Value} {below : List Frame} {meth : Method} {c : Code} {Q : State → Prop} {lo : Nat} {g : Gx} {h : Sh} (C0 : CallFix p m c cX5_digest 5 s args wB RX5) (hlo : lo ≤ s.heap.size) (hK : KW g s) (hZ : ZW lo s s.heap) (v3 : Int32)  : ∀ (n : Nat) (v1 : Int64) (v4 : Int32) (σ : Sg) (z : (Int64 × Sg)) (hF : LX5_digest_49 h.1 h.2.1 v3 n v1 v4 σ = some z) (H : Heap) (locs : List Loc) (ls : Array Slot) (hW : FW g h (Ax lo) σ H) (hS : va_S (Ax lo) s.heap H locs) (hl : lv_has ls 5 [(0, .ref (h.2.2 20 0)), (1, .long v1), (3, .int v3), (4, .int v4)]) (kk : ∀ (H : Heap) (locs : List Loc) (ls : Array Slot), FW g h (Ax lo) z.2 H → va_S (Ax lo) s.heap H locs → lv_has ls 5 [(0, .ref (h.2.2 20 0)), (1, .long z.1), (3, .int v3)] → W p l e { frames := 4, cells := 0, slots := 0, locals := 100 } s m args below meth c H locs 0 0 Q (F0 m 77 ls [])), W p l e { frames := 4, cells := 0, slots := 0, locals := 100 } s m args below meth c H locs 0 0 Q (F0 m 49 ls []) := by
  have hx := C0.1
  have hb := C0.2.1
  intro n
  induction n with
  | zero =>
    intro v1 v4 σ z hF
    rw [LX5_digest_49] at hF
    cases hF
  | succ n ih =>
    intro v1 v4 σ z hF H locs ls hW hS hl kk
    rw [LX5_digest_49] at hF
    refine lv_iload hx hb dX5_digest_49 (lv_at hl 3 rfl) ?_
    refine lv_bipush (v := 7) hx hb dX5_digest_51 (by decide) ?_
    refine lv_icmp_ge (tgt := 77) hx hb dX5_digest_53 (by decide) (fun c5 => ?_) (fun c5 => ?_)
    · rw [if_pos c5] at hF
      cases hF
      exact kk _ _ _ hW hS (lv_sub hl [0, 1, 2] rfl)
    · rw [if_neg c5] at hF
      refine lv_lload_n hx hb dX5_digest_56 rfl (lv_at hl 1 rfl) ?_
      refine lv_ldc2 hx hb C0.2.2.2.1 (C0.2.2.2.2 _ wconstantLong_X5_150) dX5_digest_57 ?_
      refine lv_lmul hx hb dX5_digest_60 ?_
      refine lv_aload_n hx hb dX5_digest_61 rfl (lv_at hl 0 rfl) ?_
      refine lv_iload_n hx hb dX5_digest_62 rfl (lv_at hl 2 rfl) ?_
      refine lv_iload hx hb dX5_digest_63 (lv_at hl 3 rfl) ?_
      obtain ⟨z6, hz6, hF⟩ := bnd hF
      refine inI (runV C0 hlo hK hZ hW hS (kX5_springTold l lo g h _ v3 v4  _ _ hz6) wCO_X5_springTold wML_X5_87 wIM_X5_springTold wSE_X5_X5_springTold wIN_X5 hdX5_springTold ⟨Nat.le_of_ble_eq_true rfl, Nat.le_of_ble_eq_true rfl⟩ (recvK hK hW (al20 h 20 (by decide)) (ct20 0) rfl) rfl hl.1 rfl (Nat.le_of_ble_eq_true rfl) dX5_digest_65 ⟨Nat.le_of_ble_eq_true rfl, Nat.le_of_ble_eq_true rfl⟩) hS (fun H locs hW hS => ?_)
      refine lv_i2l hx hb dX5_digest_68 rfl ?_
      refine lv_ladd hx hb dX5_digest_69 ?_
      refine lv_lstore_n (lv' := [(1, .long ((v1 * 31) + z6.1.toInt64)), (0, .ref (h.2.2 20 0)), (3, .int v3), (4, .int v4)]) hx hb dX5_digest_70 rfl hl (by decide) rfl (fun ls hl => ?_)
      refine lv_iinc (v := v4 + 1) (lv' := [(4, .int (v4 + 1)), (1, .long ((v1 * 31) + z6.1.toInt64)), (0, .ref (h.2.2 20 0)), (3, .int v3)]) hx hb dX5_digest_71 hl (k := 3) rfl rfl (by decide) rfl (fun ls hl => ?_)
      refine lv_goto (tgt := 49) hx hb dX5_digest_74 (by decide) ?_
      exact ih ((v1 * 31) + z6.1.toInt64) (v4 + 1) z6.2 z hF _ _ _ hW hS (lv_sub hl [2, 1, 3, 0] rfl) kk
set_option maxHeartbeats 4000000 in
set_option maxRecDepth 100000 in
theorem lX5_digest_38 {p : Program} {l : Launch} {e : Env} {s : State} {m : MethodId} {args : Array Value} {below : List Frame} {meth : Method} {c : Code} {Q : State → Prop} {lo : Nat} {g : Gx} {h : Sh} (C0 : CallFix p m c cX5_digest 5 s args wB RX5) (hlo : lo ≤ s.heap.size) (hK : KW g s) (hZ : ZW lo s s.heap)   : ∀ (n : Nat) (v1 : Int64) (v3 : Int32) (σ : Sg) (z : (Int64 × Sg)) (hF : LX5_digest_38 h.1 h.2.1  n v1 v3 σ = some z) (H : Heap) (locs : List Loc) (ls : Array Slot) (hW : FW g h (Ax lo) σ H) (hS : va_S (Ax lo) s.heap H locs) (hl : lv_has ls 5 [(0, .ref (h.2.2 20 0)), (1, .long v1), (3, .int v3)]) (kk : ∀ (H : Heap) (locs : List Loc) (ls : Array Slot), FW g h (Ax lo) z.2 H → va_S (Ax lo) s.heap H locs → lv_has ls 5 [(0, .ref (h.2.2 20 0)), (1, .long z.1)] → W p l e { frames := 4, cells := 0, slots := 0, locals := 100 } s m args below meth c H locs 0 0 Q (F0 m 83 ls [])), W p l e { frames := 4, cells := 0, slots := 0, locals := 100 } s m args below meth c H locs 0 0 Q (F0 m 38 ls []) := by
  have hx := C0.1
  have hb := C0.2.1
  intro n
  induction n with
  | zero =>
    intro v1 v3 σ z hF
    rw [LX5_digest_38] at hF
    cases hF
  | succ n ih =>
    intro v1 v3 σ z hF H locs ls hW hS hl kk
    rw [LX5_digest_38] at hF
    refine lv_iload_n hx hb dX5_digest_38 rfl (lv_at hl 2 rfl) ?_
    refine lv_aload_n hx hb dX5_digest_39 rfl (lv_at hl 0 rfl) ?_
    refine get20 C0 hK hW 0 (al20 h 20 (by decide)) 2 (by decide) wFL_X5_42 rfl rfl dX5_digest_40 ?_
    refine lv_icmp_ge (tgt := 83) hx hb dX5_digest_43 (by decide) (fun c4 => ?_) (fun c4 => ?_)
    · rw [if_pos c4] at hF
      cases hF
      exact kk _ _ _ hW hS (lv_sub hl [0, 1] rfl)
    · rw [if_neg c4] at hF
      refine lv_iconst (v := 0) hx hb dX5_digest_46 (by decide) ?_
      refine lv_istore (lv' := [(4, .int 0), (0, .ref (h.2.2 20 0)), (1, .long v1), (3, .int v3)]) hx hb dX5_digest_47 hl (by decide) rfl (fun ls hl => ?_)
      obtain ⟨z7, hz7, hF⟩ := bnd hF
      refine lX5_digest_49 C0 hlo hK hZ v3  _ v1 0 _ z7 hz7 _ _ _ hW hS (lv_sub hl [1, 2, 3, 0] rfl) (fun H locs ls hW hS hl => ?_)
      refine lv_iinc (v := v3 + 1) (lv' := [(3, .int (v3 + 1)), (0, .ref (h.2.2 20 0)), (1, .long z7.1)]) hx hb dX5_digest_77 hl (k := 2) rfl rfl (by decide) rfl (fun ls hl => ?_)
      refine lv_goto (tgt := 38) hx hb dX5_digest_80 (by decide) ?_
      exact ih z7.1 (v3 + 1) z7.2 z hF _ _ _ hW hS (lv_sub hl [1, 2, 0] rfl) kk
set_option maxHeartbeats 4000000 in
set_option maxRecDepth 100000 in
theorem lX5_digest_96 {p : Program} {l : Launch} {e : Env} {s : State} {m : MethodId} {args : Array Value} {below : List Frame} {meth : Method} {c : Code} {Q : State → Prop} {lo : Nat} {g : Gx} {h : Sh} (C0 : CallFix p m c cX5_digest 5 s args wB RX5) (hlo : lo ≤ s.heap.size) (hK : KW g s) (hZ : ZW lo s s.heap) (v3 : Int32)  : ∀ (n : Nat) (v1 : Int64) (v4 : Int32) (σ : Sg) (z : (Int64 × Sg)) (hF : LX5_digest_96 h.1 h.2.1 v3 n v1 v4 σ = some z) (H : Heap) (locs : List Loc) (ls : Array Slot) (hW : FW g h (Ax lo) σ H) (hS : va_S (Ax lo) s.heap H locs) (hl : lv_has ls 5 [(0, .ref (h.2.2 20 0)), (1, .long v1), (3, .int v3), (4, .int v4)]) (kk : ∀ (H : Heap) (locs : List Loc) (ls : Array Slot), FW g h (Ax lo) z.2 H → va_S (Ax lo) s.heap H locs → lv_has ls 5 [(0, .ref (h.2.2 20 0)), (1, .long z.1), (3, .int v3)] → W p l e { frames := 4, cells := 0, slots := 0, locals := 100 } s m args below meth c H locs 0 0 Q (F0 m 124 ls [])), W p l e { frames := 4, cells := 0, slots := 0, locals := 100 } s m args below meth c H locs 0 0 Q (F0 m 96 ls []) := by
  have hx := C0.1
  have hb := C0.2.1
  intro n
  induction n with
  | zero =>
    intro v1 v4 σ z hF
    rw [LX5_digest_96] at hF
    cases hF
  | succ n ih =>
    intro v1 v4 σ z hF H locs ls hW hS hl kk
    rw [LX5_digest_96] at hF
    refine lv_iload hx hb dX5_digest_96 (lv_at hl 3 rfl) ?_
    refine lv_bipush (v := 10) hx hb dX5_digest_98 (by decide) ?_
    refine lv_icmp_ge (tgt := 124) hx hb dX5_digest_100 (by decide) (fun c10 => ?_) (fun c10 => ?_)
    · rw [if_pos c10] at hF
      cases hF
      exact kk _ _ _ hW hS (lv_sub hl [0, 1, 2] rfl)
    · rw [if_neg c10] at hF
      refine lv_lload_n hx hb dX5_digest_103 rfl (lv_at hl 1 rfl) ?_
      refine lv_ldc2 hx hb C0.2.2.2.1 (C0.2.2.2.2 _ wconstantLong_X5_150) dX5_digest_104 ?_
      refine lv_lmul hx hb dX5_digest_107 ?_
      refine lv_aload_n hx hb dX5_digest_108 rfl (lv_at hl 0 rfl) ?_
      refine lv_iload_n hx hb dX5_digest_109 rfl (lv_at hl 2 rfl) ?_
      refine lv_iload hx hb dX5_digest_110 (lv_at hl 3 rfl) ?_
      obtain ⟨z11, hz11, hF⟩ := bnd hF
      refine inI (runV C0 hlo hK hZ hW hS (kX5_get l lo g h _ v3 v4  _ _ hz11) wCO_X5_get wML_X5_77 wIM_X5_get wSE_X5_X5_get wIN_X5 hdX5_get ⟨Nat.le_of_ble_eq_true rfl, Nat.le_of_ble_eq_true rfl⟩ (recvK hK hW (al20 h 20 (by decide)) (ct20 0) rfl) rfl hl.1 rfl (Nat.le_of_ble_eq_true rfl) dX5_digest_112 ⟨Nat.le_of_ble_eq_true rfl, Nat.le_of_ble_eq_true rfl⟩) hS (fun H locs hW hS => ?_)
      refine lv_i2l hx hb dX5_digest_115 rfl ?_
      refine lv_ladd hx hb dX5_digest_116 ?_
      refine lv_lstore_n (lv' := [(1, .long ((v1 * 31) + z11.1.toInt64)), (0, .ref (h.2.2 20 0)), (3, .int v3), (4, .int v4)]) hx hb dX5_digest_117 rfl hl (by decide) rfl (fun ls hl => ?_)
      refine lv_iinc (v := v4 + 1) (lv' := [(4, .int (v4 + 1)), (1, .long ((v1 * 31) + z11.1.toInt64)), (0, .ref (h.2.2 20 0)), (3, .int v3)]) hx hb dX5_digest_118 hl (k := 3) rfl rfl (by decide) rfl (fun ls hl => ?_)
      refine lv_goto (tgt := 96) hx hb dX5_digest_121 (by decide) ?_
      exact ih ((v1 * 31) + z11.1.toInt64) (v4 + 1) z11.2 z hF _ _ _ hW hS (lv_sub hl [2, 1, 3, 0] rfl) kk
set_option maxHeartbeats 4000000 in
set_option maxRecDepth 100000 in
theorem lX5_digest_127 {p : Program} {l : Launch} {e : Env} {s : State} {m : MethodId} {args : Array Value} {below : List Frame} {meth : Method} {c : Code} {Q : State → Prop} {lo : Nat} {g : Gx} {h : Sh} (C0 : CallFix p m c cX5_digest 5 s args wB RX5) (hlo : lo ≤ s.heap.size) (hK : KW g s) (hZ : ZW lo s s.heap) (v3 : Int32)  : ∀ (n : Nat) (v1 : Int64) (v4 : Int32) (σ : Sg) (z : (Int64 × Sg)) (hF : LX5_digest_127 h.1 h.2.1 v3 n v1 v4 σ = some z) (H : Heap) (locs : List Loc) (ls : Array Slot) (hW : FW g h (Ax lo) σ H) (hS : va_S (Ax lo) s.heap H locs) (hl : lv_has ls 5 [(0, .ref (h.2.2 20 0)), (1, .long v1), (3, .int v3), (4, .int v4)]) (kk : ∀ (H : Heap) (locs : List Loc) (ls : Array Slot), FW g h (Ax lo) z.2 H → va_S (Ax lo) s.heap H locs → lv_has ls 5 [(0, .ref (h.2.2 20 0)), (1, .long z.1), (3, .int v3)] → W p l e { frames := 4, cells := 0, slots := 0, locals := 100 } s m args below meth c H locs 0 0 Q (F0 m 160 ls [])), W p l e { frames := 4, cells := 0, slots := 0, locals := 100 } s m args below meth c H locs 0 0 Q (F0 m 127 ls []) := by
  have hx := C0.1
  have hb := C0.2.1
  intro n
  induction n with
  | zero =>
    intro v1 v4 σ z hF
    rw [LX5_digest_127] at hF
    cases hF
  | succ n ih =>
    intro v1 v4 σ z hF H locs ls hW hS hl kk
    rw [LX5_digest_127] at hF
    refine lv_iload hx hb dX5_digest_127 (lv_at hl 3 rfl) ?_
    refine lv_bipush (v := 6) hx hb dX5_digest_129 (by decide) ?_
    refine lv_icmp_ge (tgt := 160) hx hb dX5_digest_131 (by decide) (fun c13 => ?_) (fun c13 => ?_)
    · rw [if_pos c13] at hF
      cases hF
      exact kk _ _ _ hW hS (lv_sub hl [0, 1, 2] rfl)
    · rw [if_neg c13] at hF
      refine lv_lload_n hx hb dX5_digest_134 rfl (lv_at hl 1 rfl) ?_
      refine lv_ldc2 hx hb C0.2.2.2.1 (C0.2.2.2.2 _ wconstantLong_X5_150) dX5_digest_135 ?_
      refine lv_lmul hx hb dX5_digest_138 ?_
      refine lv_aload_n hx hb dX5_digest_139 rfl (lv_at hl 0 rfl) ?_
      refine get20 C0 hK hW 0 (al20 h 20 (by decide)) 8 (by decide) wFL_X5_23 rfl rfl dX5_digest_140 ?_
      refine lv_bipush (v := 6) hx hb dX5_digest_143 (by decide) ?_
      refine lv_iload_n hx hb dX5_digest_145 rfl (lv_at hl 2 rfl) ?_
      refine lv_imul hx hb dX5_digest_146 ?_
      refine lv_iload hx hb dX5_digest_147 (lv_at hl 3 rfl) ?_
      refine lv_iadd hx hb dX5_digest_149 ?_
      obtain ⟨hg, hF⟩ := grd hF
      refine ald C0 hK hW 25 0 (al20 h 25 (by decide)) (by decide) hg dX5_digest_150 ?_
      refine lv_i2l hx hb dX5_digest_151 rfl ?_
      refine lv_ladd hx hb dX5_digest_152 ?_
      refine lv_lstore_n (lv' := [(1, .long ((v1 * 31) + ((σ.1 25 0 ((6 * v3) + v4).toNatClampNeg).toInt64))), (0, .ref (h.2.2 20 0)), (3, .int v3), (4, .int v4)]) hx hb dX5_digest_153 rfl hl (by decide) rfl (fun ls hl => ?_)
      refine lv_iinc (v := v4 + 1) (lv' := [(4, .int (v4 + 1)), (1, .long ((v1 * 31) + ((σ.1 25 0 ((6 * v3) + v4).toNatClampNeg).toInt64))), (0, .ref (h.2.2 20 0)), (3, .int v3)]) hx hb dX5_digest_154 hl (k := 3) rfl rfl (by decide) rfl (fun ls hl => ?_)
      refine lv_goto (tgt := 127) hx hb dX5_digest_157 (by decide) ?_
      exact ih ((v1 * 31) + ((σ.1 25 0 ((6 * v3) + v4).toNatClampNeg).toInt64)) (v4 + 1) σ z hF _ _ _ hW hS (lv_sub hl [2, 1, 3, 0] rfl) kk
set_option maxHeartbeats 4000000 in
set_option maxRecDepth 100000 in
theorem lX5_digest_163 {p : Program} {l : Launch} {e : Env} {s : State} {m : MethodId} {args : Array Value} {below : List Frame} {meth : Method} {c : Code} {Q : State → Prop} {lo : Nat} {g : Gx} {h : Sh} (C0 : CallFix p m c cX5_digest 5 s args wB RX5) (hlo : lo ≤ s.heap.size) (hK : KW g s) (hZ : ZW lo s s.heap) (v3 : Int32)  : ∀ (n : Nat) (v1 : Int64) (v4 : Int32) (σ : Sg) (z : (Int64 × Sg)) (hF : LX5_digest_163 h.1 h.2.1 v3 n v1 v4 σ = some z) (H : Heap) (locs : List Loc) (ls : Array Slot) (hW : FW g h (Ax lo) σ H) (hS : va_S (Ax lo) s.heap H locs) (hl : lv_has ls 5 [(0, .ref (h.2.2 20 0)), (1, .long v1), (3, .int v3), (4, .int v4)]) (kk : ∀ (H : Heap) (locs : List Loc) (ls : Array Slot), FW g h (Ax lo) z.2 H → va_S (Ax lo) s.heap H locs → lv_has ls 5 [(0, .ref (h.2.2 20 0)), (1, .long z.1), (3, .int v3)] → W p l e { frames := 4, cells := 0, slots := 0, locals := 100 } s m args below meth c H locs 0 0 Q (F0 m 196 ls [])), W p l e { frames := 4, cells := 0, slots := 0, locals := 100 } s m args below meth c H locs 0 0 Q (F0 m 163 ls []) := by
  have hx := C0.1
  have hb := C0.2.1
  intro n
  induction n with
  | zero =>
    intro v1 v4 σ z hF
    rw [LX5_digest_163] at hF
    cases hF
  | succ n ih =>
    intro v1 v4 σ z hF H locs ls hW hS hl kk
    rw [LX5_digest_163] at hF
    refine lv_iload hx hb dX5_digest_163 (lv_at hl 3 rfl) ?_
    refine lv_iconst (v := 3) hx hb dX5_digest_165 (by decide) ?_
    refine lv_icmp_ge (tgt := 196) hx hb dX5_digest_166 (by decide) (fun c15 => ?_) (fun c15 => ?_)
    · rw [if_pos c15] at hF
      cases hF
      exact kk _ _ _ hW hS (lv_sub hl [0, 1, 2] rfl)
    · rw [if_neg c15] at hF
      refine lv_lload_n hx hb dX5_digest_169 rfl (lv_at hl 1 rfl) ?_
      refine lv_ldc2 hx hb C0.2.2.2.1 (C0.2.2.2.2 _ wconstantLong_X5_150) dX5_digest_170 ?_
      refine lv_lmul hx hb dX5_digest_173 ?_
      refine lv_aload_n hx hb dX5_digest_174 rfl (lv_at hl 0 rfl) ?_
      refine lv_iload_n hx hb dX5_digest_175 rfl (lv_at hl 2 rfl) ?_
      refine lv_iload hx hb dX5_digest_176 (lv_at hl 3 rfl) ?_
      refine lv_aload_n hx hb dX5_digest_178 rfl (lv_at hl 0 rfl) ?_
      refine lv_iload_n hx hb dX5_digest_179 rfl (lv_at hl 2 rfl) ?_
      refine lv_iconst (v := 5) hx hb dX5_digest_180 (by decide) ?_
      obtain ⟨z16, hz16, hF⟩ := bnd hF
      refine inI (runV C0 hlo hK hZ hW hS (kX5_get l lo g h _ v3 5  _ _ hz16) wCO_X5_get wML_X5_77 wIM_X5_get wSE_X5_X5_get wIN_X5 hdX5_get ⟨Nat.le_of_ble_eq_true rfl, Nat.le_of_ble_eq_true rfl⟩ (recvK hK hW (al20 h 20 (by decide)) (ct20 0) rfl) rfl hl.1 rfl (Nat.le_of_ble_eq_true rfl) dX5_digest_181 ⟨Nat.le_of_ble_eq_true rfl, Nat.le_of_ble_eq_true rfl⟩) hS (fun H locs hW hS => ?_)
      obtain ⟨z17, hz17, hF⟩ := bnd hF
      refine inI (runV C0 hlo hK hZ hW hS (kX5_liftAt l lo g h _ v3 v4 z16.1  _ _ hz17) wCO_X5_liftAt wML_X5_80 wIM_X5_liftAt wSE_X5_X5_liftAt wIN_X5 hdX5_liftAt ⟨Nat.le_of_ble_eq_true rfl, Nat.le_of_ble_eq_true rfl⟩ (recvK hK hW (al20 h 20 (by decide)) (ct20 0) rfl) rfl hl.1 rfl (Nat.le_of_ble_eq_true rfl) dX5_digest_184 ⟨Nat.le_of_ble_eq_true rfl, Nat.le_of_ble_eq_true rfl⟩) hS (fun H locs hW hS => ?_)
      refine lv_i2l hx hb dX5_digest_187 rfl ?_
      refine lv_ladd hx hb dX5_digest_188 ?_
      refine lv_lstore_n (lv' := [(1, .long ((v1 * 31) + z17.1.toInt64)), (0, .ref (h.2.2 20 0)), (3, .int v3), (4, .int v4)]) hx hb dX5_digest_189 rfl hl (by decide) rfl (fun ls hl => ?_)
      refine lv_iinc (v := v4 + 1) (lv' := [(4, .int (v4 + 1)), (1, .long ((v1 * 31) + z17.1.toInt64)), (0, .ref (h.2.2 20 0)), (3, .int v3)]) hx hb dX5_digest_190 hl (k := 3) rfl rfl (by decide) rfl (fun ls hl => ?_)
      refine lv_goto (tgt := 163) hx hb dX5_digest_193 (by decide) ?_
      exact ih ((v1 * 31) + z17.1.toInt64) (v4 + 1) z17.2 z hF _ _ _ hW hS (lv_sub hl [2, 1, 3, 0] rfl) kk
set_option maxHeartbeats 4000000 in
set_option maxRecDepth 100000 in
theorem lX5_digest_85 {p : Program} {l : Launch} {e : Env} {s : State} {m : MethodId} {args : Array Value} {below : List Frame} {meth : Method} {c : Code} {Q : State → Prop} {lo : Nat} {g : Gx} {h : Sh} (C0 : CallFix p m c cX5_digest 5 s args wB RX5) (hlo : lo ≤ s.heap.size) (hK : KW g s) (hZ : ZW lo s s.heap)   : ∀ (n : Nat) (v1 : Int64) (v3 : Int32) (σ : Sg) (z : (Int64 × Sg)) (hF : LX5_digest_85 h.1 h.2.1  n v1 v3 σ = some z) (H : Heap) (locs : List Loc) (ls : Array Slot) (hW : FW g h (Ax lo) σ H) (hS : va_S (Ax lo) s.heap H locs) (hl : lv_has ls 5 [(0, .ref (h.2.2 20 0)), (1, .long v1), (3, .int v3)]) (kk : ∀ (H : Heap) (locs : List Loc) (ls : Array Slot), FW g h (Ax lo) z.2 H → va_S (Ax lo) s.heap H locs → lv_has ls 5 [(0, .ref (h.2.2 20 0)), (1, .long z.1)] → W p l e { frames := 4, cells := 0, slots := 0, locals := 100 } s m args below meth c H locs 0 0 Q (F0 m 202 ls [])), W p l e { frames := 4, cells := 0, slots := 0, locals := 100 } s m args below meth c H locs 0 0 Q (F0 m 85 ls []) := by
  have hx := C0.1
  have hb := C0.2.1
  intro n
  induction n with
  | zero =>
    intro v1 v3 σ z hF
    rw [LX5_digest_85] at hF
    cases hF
  | succ n ih =>
    intro v1 v3 σ z hF H locs ls hW hS hl kk
    rw [LX5_digest_85] at hF
    refine lv_iload_n hx hb dX5_digest_85 rfl (lv_at hl 2 rfl) ?_
    refine lv_aload_n hx hb dX5_digest_86 rfl (lv_at hl 0 rfl) ?_
    refine get20 C0 hK hW 0 (al20 h 20 (by decide)) 3 (by decide) wFL_X5_49 rfl rfl dX5_digest_87 ?_
    refine lv_icmp_ge (tgt := 202) hx hb dX5_digest_90 (by decide) (fun c9 => ?_) (fun c9 => ?_)
    · rw [if_pos c9] at hF
      cases hF
      exact kk _ _ _ hW hS (lv_sub hl [0, 1] rfl)
    · rw [if_neg c9] at hF
      refine lv_iconst (v := 0) hx hb dX5_digest_93 (by decide) ?_
      refine lv_istore (lv' := [(4, .int 0), (0, .ref (h.2.2 20 0)), (1, .long v1), (3, .int v3)]) hx hb dX5_digest_94 hl (by decide) rfl (fun ls hl => ?_)
      obtain ⟨z12, hz12, hF⟩ := bnd hF
      refine lX5_digest_96 C0 hlo hK hZ v3  _ v1 0 _ z12 hz12 _ _ _ hW hS (lv_sub hl [1, 2, 3, 0] rfl) (fun H locs ls hW hS hl => ?_)
      refine lv_iconst (v := 0) hx hb dX5_digest_124 (by decide) ?_
      refine lv_istore (lv' := [(4, .int 0), (0, .ref (h.2.2 20 0)), (1, .long z12.1), (3, .int v3)]) hx hb dX5_digest_125 hl (by decide) rfl (fun ls hl => ?_)
      obtain ⟨z14, hz14, hF⟩ := bnd hF
      refine lX5_digest_127 C0 hlo hK hZ v3  _ z12.1 0 _ z14 hz14 _ _ _ hW hS (lv_sub hl [1, 2, 3, 0] rfl) (fun H locs ls hW hS hl => ?_)
      refine lv_iconst (v := 0) hx hb dX5_digest_160 (by decide) ?_
      refine lv_istore (lv' := [(4, .int 0), (0, .ref (h.2.2 20 0)), (1, .long z14.1), (3, .int v3)]) hx hb dX5_digest_161 hl (by decide) rfl (fun ls hl => ?_)
      obtain ⟨z18, hz18, hF⟩ := bnd hF
      refine lX5_digest_163 C0 hlo hK hZ v3  _ z14.1 0 _ z18 hz18 _ _ _ hW hS (lv_sub hl [1, 2, 3, 0] rfl) (fun H locs ls hW hS hl => ?_)
      refine lv_iinc (v := v3 + 1) (lv' := [(3, .int (v3 + 1)), (0, .ref (h.2.2 20 0)), (1, .long z18.1)]) hx hb dX5_digest_196 hl (k := 2) rfl rfl (by decide) rfl (fun ls hl => ?_)
      refine lv_goto (tgt := 85) hx hb dX5_digest_199 (by decide) ?_
      exact ih z18.1 (v3 + 1) z18.2 z hF _ _ _ hW hS (lv_sub hl [1, 2, 0] rfl) kk
set_option maxHeartbeats 4000000 in
set_option maxRecDepth 100000 in
theorem lX5_digest_204 {p : Program} {l : Launch} {e : Env} {s : State} {m : MethodId} {args : Array Value} {below : List Frame} {meth : Method} {c : Code} {Q : State → Prop} {lo : Nat} {g : Gx} {h : Sh} (C0 : CallFix p m c cX5_digest 5 s args wB RX5) (hlo : lo ≤ s.heap.size) (hK : KW g s) (hZ : ZW lo s s.heap)   : ∀ (n : Nat) (v1 : Int64) (v3 : Int32) (σ : Sg) (z : (Int64 × Sg)) (hF : LX5_digest_204 h.1 h.2.1  n v1 v3 σ = some z) (H : Heap) (locs : List Loc) (ls : Array Slot) (hW : FW g h (Ax lo) σ H) (hS : va_S (Ax lo) s.heap H locs) (hl : lv_has ls 5 [(0, .ref (h.2.2 20 0)), (1, .long v1), (3, .int v3)]) (kk : ∀ (H : Heap) (locs : List Loc) (ls : Array Slot), FW g h (Ax lo) z.2 H → va_S (Ax lo) s.heap H locs → lv_has ls 5 [(1, .long z.1)] → W p l e { frames := 4, cells := 0, slots := 0, locals := 100 } s m args below meth c H locs 0 0 Q (F0 m 234 ls [])), W p l e { frames := 4, cells := 0, slots := 0, locals := 100 } s m args below meth c H locs 0 0 Q (F0 m 204 ls []) := by
  have hx := C0.1
  have hb := C0.2.1
  intro n
  induction n with
  | zero =>
    intro v1 v3 σ z hF
    rw [LX5_digest_204] at hF
    cases hF
  | succ n ih =>
    intro v1 v3 σ z hF H locs ls hW hS hl kk
    rw [LX5_digest_204] at hF
    refine lv_iload_n hx hb dX5_digest_204 rfl (lv_at hl 2 rfl) ?_
    refine lv_iconst (v := 4) hx hb dX5_digest_205 (by decide) ?_
    refine lv_aload_n hx hb dX5_digest_206 rfl (lv_at hl 0 rfl) ?_
    refine get20 C0 hK hW 0 (al20 h 20 (by decide)) 11 (by decide) wFL_X5_119 rfl rfl dX5_digest_207 ?_
    refine lv_imul hx hb dX5_digest_210 ?_
    refine lv_icmp_ge (tgt := 234) hx hb dX5_digest_211 (by decide) (fun c20 => ?_) (fun c20 => ?_)
    · rw [if_pos c20] at hF
      cases hF
      exact kk _ _ _ hW hS (lv_sub hl [1] rfl)
    · rw [if_neg c20] at hF
      refine lv_lload_n hx hb dX5_digest_214 rfl (lv_at hl 1 rfl) ?_
      refine lv_ldc2 hx hb C0.2.2.2.1 (C0.2.2.2.2 _ wconstantLong_X5_150) dX5_digest_215 ?_
      refine lv_lmul hx hb dX5_digest_218 ?_
      refine lv_aload_n hx hb dX5_digest_219 rfl (lv_at hl 0 rfl) ?_
      refine get20 C0 hK hW 0 (al20 h 20 (by decide)) 12 (by decide) wFL_X5_29 rfl rfl dX5_digest_220 ?_
      refine lv_iload_n hx hb dX5_digest_223 rfl (lv_at hl 2 rfl) ?_
      obtain ⟨hg, hF⟩ := grd hF
      refine ald C0 hK hW 27 0 (al20 h 27 (by decide)) (by decide) hg dX5_digest_224 ?_
      refine lv_i2l hx hb dX5_digest_225 rfl ?_
      refine lv_ladd hx hb dX5_digest_226 ?_
      refine lv_lstore_n (lv' := [(1, .long ((v1 * 31) + ((σ.1 27 0 v3.toNatClampNeg).toInt64))), (0, .ref (h.2.2 20 0)), (3, .int v3)]) hx hb dX5_digest_227 rfl hl (by decide) rfl (fun ls hl => ?_)
      refine lv_iinc (v := v3 + 1) (lv' := [(3, .int (v3 + 1)), (1, .long ((v1 * 31) + ((σ.1 27 0 v3.toNatClampNeg).toInt64))), (0, .ref (h.2.2 20 0))]) hx hb dX5_digest_228 hl (k := 2) rfl rfl (by decide) rfl (fun ls hl => ?_)
      refine lv_goto (tgt := 204) hx hb dX5_digest_231 (by decide) ?_
      exact ih ((v1 * 31) + ((σ.1 27 0 v3.toNatClampNeg).toInt64)) (v3 + 1) σ z hF _ _ _ hW hS (lv_sub hl [2, 1, 0] rfl) kk
set_option maxHeartbeats 4000000 in
set_option maxRecDepth 100000 in
theorem kX5_digest (l : Launch) (lo : Nat) (g : Gx) (h : Sh) (σ : Sg)   (r : Int64) (σ1 : Sg) (hF : FX5_digest h.1 h.2.1 σ  = some (r, σ1)) : ML l yX5_digest (ws_ yX5_digest cX5_digest 5 (some .long)) 4 100 0 0 lo g h [.ref (h.2.2 20 0)] σ r σ1 := by
  refine ofB (own := RX5) (by decide +kernel) rfl (fun p e s m below meth c C0 hr hlk hlo hK hZ hW hS ls hl => ?_) (Nat.le_of_ble_eq_true rfl)
  have hx := C0.1
  have hb := C0.2.1
  have hl : lv_has ls 5 [(0, .ref (h.2.2 20 0))] := hl
  unfold FX5_digest at hF
  refine lv_aload_n hx hb dX5_digest_0 rfl (lv_at hl 0 rfl) ?_
  refine lv_iconst (v := 0) hx hb dX5_digest_1 (by decide) ?_
  refine put20_0 C0 hK hW hS 0 (al20 h 20 (by decide)) wFL_X5_38 dX5_digest_2 (fun H locs hW hS => ?_)
  refine lv_ldc2 hx hb C0.2.2.2.1 (C0.2.2.2.2 _ wconstantLong_X5_148) dX5_digest_5 ?_
  refine lv_lstore_n (lv' := [(1, .long 449), (0, .ref (h.2.2 20 0))]) hx hb dX5_digest_8 rfl hl (by decide) rfl (fun ls hl => ?_)
  refine lv_iconst (v := 0) hx hb dX5_digest_9 (by decide) ?_
  refine lv_istore_n (lv' := [(3, .int 0), (1, .long 449), (0, .ref (h.2.2 20 0))]) hx hb dX5_digest_10 rfl hl (by decide) rfl (fun ls hl => ?_)
  obtain ⟨z3, hz3, hF⟩ := bnd hF
  refine lX5_digest_11 C0 hlo hK hZ   _ 449 0 _ z3 hz3 _ _ _ hW hS (lv_sub hl [2, 1, 0] rfl) (fun H locs ls hW hS hl => ?_)
  refine lv_iconst (v := 0) hx hb dX5_digest_36 (by decide) ?_
  refine lv_istore_n (lv' := [(3, .int 0), (0, .ref (h.2.2 20 0)), (1, .long z3.1)]) hx hb dX5_digest_37 rfl hl (by decide) rfl (fun ls hl => ?_)
  obtain ⟨z8, hz8, hF⟩ := bnd hF
  refine lX5_digest_38 C0 hlo hK hZ   _ z3.1 0 _ z8 hz8 _ _ _ hW hS (lv_sub hl [1, 2, 0] rfl) (fun H locs ls hW hS hl => ?_)
  refine lv_iconst (v := 0) hx hb dX5_digest_83 (by decide) ?_
  refine lv_istore_n (lv' := [(3, .int 0), (0, .ref (h.2.2 20 0)), (1, .long z8.1)]) hx hb dX5_digest_84 rfl hl (by decide) rfl (fun ls hl => ?_)
  obtain ⟨z19, hz19, hF⟩ := bnd hF
  refine lX5_digest_85 C0 hlo hK hZ   _ z8.1 0 _ z19 hz19 _ _ _ hW hS (lv_sub hl [1, 2, 0] rfl) (fun H locs ls hW hS hl => ?_)
  refine lv_iconst (v := 0) hx hb dX5_digest_202 (by decide) ?_
  refine lv_istore_n (lv' := [(3, .int 0), (0, .ref (h.2.2 20 0)), (1, .long z19.1)]) hx hb dX5_digest_203 rfl hl (by decide) rfl (fun ls hl => ?_)
  obtain ⟨z21, hz21, hF⟩ := bnd hF
  refine lX5_digest_204 C0 hlo hK hZ   _ z19.1 0 _ z21 hz21 _ _ _ hW hS (lv_sub hl [1, 2, 0] rfl) (fun H locs ls hW hS hl => ?_)
  refine lv_lload_n hx hb dX5_digest_234 rfl (lv_at hl 0 rfl) ?_
  cases hF
  exact retL C0 hr hlk hW hS dX5_digest_235
