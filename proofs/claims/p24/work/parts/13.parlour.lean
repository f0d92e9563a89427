theorem hdX4_springAt : yX4_springAt.cls = RX4 ∧ yX4_springAt.cls ≠ "java/lang/invoke/MethodHandle" ∧ yX4_springAt.cls ≠ "java/lang/invoke/VarHandle" ∧ (parseMethodDescriptor yX4_springAt.desc).map (fun d => d.parameters.length) = some 1 := by decide +kernel
def FX4_springAt (ns nb : Nat) (σ : Sg) (a1 : Int32) : Option (Option Nat × Sg) :=
  if a1 < 0 then (some (none, σ)) else (if 4 ≤ a1 then (some (none, σ)) else (if (a1 < 0 ∨ 4 ≤ a1.toNatClampNeg) then none else (oc (iO ns a1.toNatClampNeg) (some (none, σ)) (fun i3_ => if i3_ < ns then (some (some i3_, σ)) else none))))
set_option maxHeartbeats 4000000 in
set_option maxRecDepth 100000 in
theorem kX4_springAt (l : Launch) (lo : Nat) (g : Gx) (h : Sh) (σ : Sg) (a1 : Int32)  (r : Option Nat) (σ1 : Sg) (hF : FX4_springAt h.1 h.2.1 σ a1 = some (r, σ1)) : MR l yX4_springAt (ws_ yX4_springAt cX4_springAt 2 (some (.object "BirdParlour$Spring"))) 0 0 0 0 lo g h [.ref (h.2.2 0 0), .int a1] σ (r.map (h.2.2 5)) σ1 := by
  refine ofB (own := RX4) (by decide +kernel) rfl (fun p e s m below meth c C0 hr hlk hlo hK hZ hW hS ls hl => ?_) (Nat.le_of_ble_eq_true rfl)
  have hx := C0.1
  have hb := C0.2.1
  have hl : lv_has ls 2 [(0, .ref (h.2.2 0 0)), (1, .int a1)] := hl
  unfold FX4_springAt at hF
  refine lv_iload_n hx hb dX4_springAt_0 rfl (lv_at hl 1 rfl) ?_
  refine lv_if_lt (tgt := 22) hx hb dX4_springAt_1 (by decide) (fun c1 => ?_) (fun c1 => ?_)
  · rw [if_pos c1] at hF
    refine lv_null hx hb dX4_springAt_22 ?_
    cases hF
    exact retR (r := none) C0 hr (Or.inl ⟨_, rfl⟩) hlk hW hS dX4_springAt_23
  · rw [if_neg c1] at hF
    refine lv_iload_n hx hb dX4_springAt_4 rfl (lv_at hl 1 rfl) ?_
    refine lv_aload_n hx hb dX4_springAt_5 rfl (lv_at hl 0 rfl) ?_
    refine get0 C0 hK hW 0 (al0 h 0 (by decide)) 0 (by decide) wFL_X4_11 rfl rfl dX4_springAt_6 ?_
    refine len1 C0 hK hW dX4_springAt_9 ?_
    refine lv_icmp_ge (tgt := 22) hx hb dX4_springAt_10 (by decide) (fun c2 => ?_) (fun c2 => ?_)
    · rw [if_pos c2] at hF
      refine lv_null hx hb dX4_springAt_22 ?_
      cases hF
      exact retR (r := none) C0 hr (Or.inl ⟨_, rfl⟩) hlk hW hS dX4_springAt_23
    · rw [if_neg c2] at hF
      refine lv_aload_n hx hb dX4_springAt_13 rfl (lv_at hl 0 rfl) ?_
      refine get0 C0 hK hW 0 (al0 h 0 (by decide)) 0 (by decide) wFL_X4_11 rfl rfl dX4_springAt_14 ?_
      refine lv_iload_n hx hb dX4_springAt_17 rfl (lv_at hl 1 rfl) ?_
      obtain ⟨hg, hF⟩ := grd hF
      refine ld1 C0 hK hW hg dX4_springAt_18 ?_
      refine nspl (fun n3 => ?_) (fun i3_ n3 => ?_)
      · rw [n3, oc_n] at hF
        refine lv_goto (tgt := 23) hx hb dX4_springAt_19 (by decide) ?_
        cases hF
        exact retR (r := none) C0 hr (Or.inl ⟨_, rfl⟩) hlk hW hS dX4_springAt_23
      · rw [n3, oc_s] at hF
        obtain ⟨hi3_, hF⟩ := grp hF
        refine lv_goto (tgt := 23) hx hb dX4_springAt_19 (by decide) ?_
        cases hF
        exact retR (r := some (h.2.2 5 i3_)) C0 hr (Or.inl ⟨_, rfl⟩) hlk hW hS dX4_springAt_23
theorem hdX4_birdAt : yX4_birdAt.cls = RX4 ∧ yX4_birdAt.cls ≠ "java/lang/invoke/MethodHandle" ∧ yX4_birdAt.cls ≠ "java/lang/invoke/VarHandle" ∧ (parseMethodDescriptor yX4_birdAt.desc).map (fun d => d.parameters.length) = some 1 := by decide +kernel
def FX4_birdAt (ns nb : Nat) (σ : Sg) (a1 : Int32) : Option (Option Nat × Sg) :=
  if a1 < 0 then (some (none, σ)) else (if 8 ≤ a1 then (some (none, σ)) else (if (a1 < 0 ∨ 8 ≤ a1.toNatClampNeg) then none else (oc (iO nb a1.toNatClampNeg) (some (none, σ)) (fun i3_ => if i3_ < nb then (some (some i3_, σ)) else none))))
set_option maxHeartbeats 4000000 in
set_option maxRecDepth 100000 in
theorem kX4_birdAt (l : Launch) (lo : Nat) (g : Gx) (h : Sh) (σ : Sg) (a1 : Int32)  (r : Option Nat) (σ1 : Sg) (hF : FX4_birdAt h.1 h.2.1 σ a1 = some (r, σ1)) : MR l yX4_birdAt (ws_ yX4_birdAt cX4_birdAt 2 (some (.object "BirdParlour$Bird"))) 0 0 0 0 lo g h [.ref (h.2.2 0 0), .int a1] σ (r.map (h.2.2 6)) σ1 := by
  refine ofB (own := RX4) (by decide +kernel) rfl (fun p e s m below meth c C0 hr hlk hlo hK hZ hW hS ls hl => ?_) (Nat.le_of_ble_eq_true rfl)
  have hx := C0.1
  have hb := C0.2.1
  have hl : lv_has ls 2 [(0, .ref (h.2.2 0 0)), (1, .int a1)] := hl
  unfold FX4_birdAt at hF
  refine lv_iload_n hx hb dX4_birdAt_0 rfl (lv_at hl 1 rfl) ?_
  refine lv_if_lt (tgt := 22) hx hb dX4_birdAt_1 (by decide) (fun c1 => ?_) (fun c1 => ?_)
  · rw [if_pos c1] at hF
    refine lv_null hx hb dX4_birdAt_22 ?_
    cases hF
    exact retR (r := none) C0 hr (Or.inl ⟨_, rfl⟩) hlk hW hS dX4_birdAt_23
  · rw [if_neg c1] at hF
    refine lv_iload_n hx hb dX4_birdAt_4 rfl (lv_at hl 1 rfl) ?_
    refine lv_aload_n hx hb dX4_birdAt_5 rfl (lv_at hl 0 rfl) ?_
    refine get0 C0 hK hW 0 (al0 h 0 (by decide)) 1 (by decide) wFL_X4_17 rfl rfl dX4_birdAt_6 ?_
    refine len2 C0 hK hW dX4_birdAt_9 ?_
    refine lv_icmp_ge (tgt := 22) hx hb dX4_birdAt_10 (by decide) (fun c2 => ?_) (fun c2 => ?_)
    · rw [if_pos c2] at hF
      refine lv_null hx hb dX4_birdAt_22 ?_
      cases hF
      exact retR (r := none) C0 hr (Or.inl ⟨_, rfl⟩) hlk hW hS dX4_birdAt_23
    · rw [if_neg c2] at hF
      refine lv_aload_n hx hb dX4_birdAt_13 rfl (lv_at hl 0 rfl) ?_
      refine get0 C0 hK hW 0 (al0 h 0 (by decide)) 1 (by decide) wFL_X4_17 rfl rfl dX4_birdAt_14 ?_
      refine lv_iload_n hx hb dX4_birdAt_17 rfl (lv_at hl 1 rfl) ?_
      obtain ⟨hg, hF⟩ := grd hF
      refine ld2 C0 hK hW hg dX4_birdAt_18 ?_
      refine nspl (fun n3 => ?_) (fun i3_ n3 => ?_)
      · rw [n3, oc_n] at hF
        refine lv_goto (tgt := 23) hx hb dX4_birdAt_19 (by decide) ?_
        cases hF
        exact retR (r := none) C0 hr (Or.inl ⟨_, rfl⟩) hlk hW hS dX4_birdAt_23
      · rw [n3, oc_s] at hF
        obtain ⟨hi3_, hF⟩ := grp hF
        refine lv_goto (tgt := 23) hx hb dX4_birdAt_19 (by decide) ?_
        cases hF
        exact retR (r := some (h.2.2 6 i3_)) C0 hr (Or.inl ⟨_, rfl⟩) hlk hW hS dX4_birdAt_23
theorem hdX4_birdsDrivenBy : yX4_birdsDrivenBy.cls = RX4 ∧ yX4_birdsDrivenBy.cls ≠ "java/lang/invoke/MethodHandle" ∧ yX4_birdsDrivenBy.cls ≠ "java/lang/invoke/VarHandle" ∧ (parseMethodDescriptor yX4_birdsDrivenBy.desc).map (fun d => d.parameters.length) = some 1 := by decide +kernel
def LX4_birdsDrivenBy_14 (ns nb : Nat) (v1 : Int32) : Nat → Int32 → Int32 → Sg → Option (Int32 × Sg)
  | 0, _, _, _ => none
  | n + 1, v2, v5, σ => if 8 ≤ v5 then (some (v2, σ)) else (if (v5 < 0 ∨ 8 ≤ v5.toNatClampNeg) then none else (oc (iO nb v5.toNatClampNeg) (LX4_birdsDrivenBy_14 ns nb v1 n v2 (v5 + 1) σ) (fun i2_ => if i2_ < nb then ((FX0_isDrivenBy ns nb σ i2_ v1).bind fun z3 => if z3.1 = 0 then (LX4_birdsDrivenBy_14 ns nb v1 n v2 (v5 + 1) z3.2) else (LX4_birdsDrivenBy_14 ns nb v1 n (v2 + 1) (v5 + 1) z3.2)) else none)))
def FX4_birdsDrivenBy (ns nb : Nat) (σ : Sg) (a1 : Int32) : Option (Int32 × Sg) :=
  (LX4_birdsDrivenBy_14 ns nb a1 4100 0 0 σ).bind fun z5 => some (z5.1, z5.2)
set_option maxHeartbeats 4000000 in
set_option maxRecDepth 100000 in
theorem lX4_birdsDrivenBy_14 {p : Program} {l : Launch} {e : Env} {s : State} {m : MethodId} {args : Array Value} {below : List Frame} {meth : Method} {c : Code} {Q : State → Prop} {lo : Nat} {g : Gx} {h : Sh} (C0 : CallFix p m c cX4_birdsDrivenBy 7 s args wB RX4) (hlo : lo ≤ s.heap.size) (hK : KW g s) (hZ : ZW lo s s.heap) (v1 : Int32)  : ∀ (n : Nat) (v2 : Int32) (v5 : Int32) (σ : Sg) (z : (Int32 × Sg)) (hF : LX4_birdsDrivenBy_14 h.1 h.2.1 v1 n v2 v5 σ = some z) (H : Heap) (locs : List Loc) (ls : Array Slot) (hW : FW g h (Ax lo) σ H) (hS : va_S (Ax lo) s.heap H locs) (hl : lv_has ls 7 [(1, .int v1), (2, .int v2), (3, .ref (h.2.2 2 0)), (4, .int 8), (5, .int v5)]) (kk : ∀ (H : Heap) (locs : List Loc) (ls : Array Slot), FW g h (Ax lo) z.2 H → va_S (Ax lo) s.heap H locs → lv_has ls 7 [(2, .int z.1)] → W p l e { frames := 1, cells := 0, slots := 0, locals := 21 } s m args below meth c H locs 0 0 Q (F0 m 50 ls [])), W p l e { frames := 1, cells := 0, slots := 0, locals := 21 } s m args below meth c H locs 0 0 Q (F0 m 14 ls []) := by
  have hx := C0.1
  have hb := C0.2.1
  intro n
  induction n with
  | zero =>
    intro v2 v5 σ z hF
    rw [LX4_birdsDrivenBy_14] at hF
    cases hF
  | succ n ih =>
    intro v2 v5 σ z hF H locs ls hW hS hl kk
    rw [LX4_birdsDrivenBy_14] at hF
    refine lv_iload hx hb dX4_birdsDrivenBy_14 (lv_at hl 4 rfl) ?_
    refine lv_iload hx hb dX4_birdsDrivenBy_16 (lv_at hl 3 rfl) ?_
    refine lv_icmp_ge (tgt := 50) hx hb dX4_birdsDrivenBy_18 (by decide) (fun c1 => ?_) (fun c1 => ?_)
    · rw [if_pos c1] at hF
      cases hF
      exact kk _ _ _ hW hS (lv_sub hl [1] rfl)
    · rw [if_neg c1] at hF
      refine lv_aload_n hx hb dX4_birdsDrivenBy_21 rfl (lv_at hl 2 rfl) ?_
      refine lv_iload hx hb dX4_birdsDrivenBy_22 (lv_at hl 4 rfl) ?_
      obtain ⟨hg, hF⟩ := grd hF
      refine ld2 C0 hK hW hg dX4_birdsDrivenBy_24 ?_
      refine nspl (fun n2 => ?_) (fun i2_ n2 => ?_)
      · rw [n2, oc_n] at hF
        refine lv_astoreN (lv' := [(6, .null), (1, .int v1), (2, .int v2), (3, .ref (h.2.2 2 0)), (4, .int 8), (5, .int v5)]) hx hb dX4_birdsDrivenBy_25 hl (by decide) rfl (fun ls hl => ?_)
        refine lv_aloadN hx hb dX4_birdsDrivenBy_27 (lv_at hl 0 rfl) ?_
        refine lv_ifnullN (tgt := 44) hx hb dX4_birdsDrivenBy_29 (by decide) ?_
        refine lv_iinc (v := v5 + 1) (lv' := [(5, .int (v5 + 1)), (6, .null), (1, .int v1), (2, .int v2), (3, .ref (h.2.2 2 0)), (4, .int 8)]) hx hb dX4_birdsDrivenBy_44 hl (k := 5) rfl rfl (by decide) rfl (fun ls hl => ?_)
        refine lv_goto (tgt := 14) hx hb dX4_birdsDrivenBy_47 (by decide) ?_
        exact ih v2 (v5 + 1) σ z hF _ _ _ hW hS (lv_sub hl [2, 3, 4, 5, 0] rfl) kk
      · rw [n2, oc_s] at hF
        obtain ⟨hi2_, hF⟩ := grp hF
        refine lv_astore (lv' := [(6, .ref (h.2.2 6 i2_)), (1, .int v1), (2, .int v2), (3, .ref (h.2.2 2 0)), (4, .int 8), (5, .int v5)]) hx hb dX4_birdsDrivenBy_25 hl (by decide) rfl (fun ls hl => ?_)
        refine lv_aload hx hb dX4_birdsDrivenBy_27 (lv_at hl 0 rfl) ?_
        refine lv_ifnull hx hb dX4_birdsDrivenBy_29 ?_
        refine lv_aload hx hb dX4_birdsDrivenBy_32 (lv_at hl 0 rfl) ?_
        refine lv_iload_n hx hb dX4_birdsDrivenBy_34 rfl (lv_at hl 1 rfl) ?_
        obtain ⟨z3, hz3, hF⟩ := bnd hF
        refine inI (runV C0 hlo hK hZ hW hS (kX0_isDrivenBy l lo g h _ i2_ v1 hi2_ _ _ hz3) wCO_X0_isDrivenBy wML_X4_314 wIM_X0_isDrivenBy wSE_X0_X0_isDrivenBy wIN_X0 hdX0_isDrivenBy ⟨Nat.le_of_ble_eq_true rfl, Nat.le_of_ble_eq_true rfl⟩ (recvK hK hW (al6 6 hi2_ (by decide)) (ct6 i2_) rfl) rfl hl.1 rfl (Nat.le_of_ble_eq_true rfl) dX4_birdsDrivenBy_35 ⟨Nat.le_of_ble_eq_true rfl, Nat.le_of_ble_eq_true rfl⟩) hS (fun H locs hW hS => ?_)
        refine lv_if_eq (tgt := 44) hx hb dX4_birdsDrivenBy_38 (by decide) (fun c4 => ?_) (fun c4 => ?_)
        · rw [if_pos c4] at hF
          refine lv_iinc (v := v5 + 1) (lv' := [(5, .int (v5 + 1)), (6, .ref (h.2.2 6 i2_)), (1, .int v1), (2, .int v2), (3, .ref (h.2.2 2 0)), (4, .int 8)]) hx hb dX4_birdsDrivenBy_44 hl (k := 5) rfl rfl (by decide) rfl (fun ls hl => ?_)
          refine lv_goto (tgt := 14) hx hb dX4_birdsDrivenBy_47 (by decide) ?_
          exact ih v2 (v5 + 1) z3.2 z hF _ _ _ hW hS (lv_sub hl [2, 3, 4, 5, 0] rfl) kk
        · rw [if_neg c4] at hF
          refine lv_iinc (v := v2 + 1) (lv' := [(2, .int (v2 + 1)), (6, .ref (h.2.2 6 i2_)), (1, .int v1), (3, .ref (h.2.2 2 0)), (4, .int 8), (5, .int v5)]) hx hb dX4_birdsDrivenBy_41 hl (k := 2) rfl rfl (by decide) rfl (fun ls hl => ?_)
          refine lv_iinc (v := v5 + 1) (lv' := [(5, .int (v5 + 1)), (2, .int (v2 + 1)), (6, .ref (h.2.2 6 i2_)), (1, .int v1), (3, .ref (h.2.2 2 0)), (4, .int 8)]) hx hb dX4_birdsDrivenBy_44 hl (k := 5) rfl rfl (by decide) rfl (fun ls hl => ?_)
          refine lv_goto (tgt := 14) hx hb dX4_birdsDrivenBy_47 (by decide) ?_
          exact ih (v2 + 1) (v5 + 1) z3.2 z hF _ _ _ hW hS (lv_sub hl [3, 1, 4, 5, 0] rfl) kk
set_option maxHeartbeats 4000000 in
set_option maxRecDepth 100000 in
theorem kX4_birdsDrivenBy (l : Launch) (lo : Nat) (g : Gx) (h : Sh) (σ : Sg) (a1 : Int32)  (r : Int32) (σ1 : Sg) (hF : FX4_birdsDrivenBy h.1 h.2.1 σ a1 = some (r, σ1)) : MI l yX4_birdsDrivenBy (ws_ yX4_birdsDrivenBy cX4_birdsDrivenBy 7 (some .int)) 1 21 0 0 lo g h [.ref (h.2.2 0 0), .int a1] σ r σ1 := by
  refine ofB (own := RX4) (by decide +kernel) rfl (fun p e s m below meth c C0 hr hlk hlo hK hZ hW hS ls hl => ?_) (Nat.le_of_ble_eq_true rfl)
  have hx := C0.1
  have hb := C0.2.1
  have hl : lv_has ls 7 [(0, .ref (h.2.2 0 0)), (1, .int a1)] := hl
  unfold FX4_birdsDrivenBy at hF
  refine lv_iconst (v := 0) hx hb dX4_birdsDrivenBy_0 (by decide) ?_
  refine lv_istore_n (lv' := [(2, .int 0), (0, .ref (h.2.2 0 0)), (1, .int a1)]) hx hb dX4_birdsDrivenBy_1 rfl hl (by decide) rfl (fun ls hl => ?_)
  refine lv_aload_n hx hb dX4_birdsDrivenBy_2 rfl (lv_at hl 1 rfl) ?_
  refine get0 C0 hK hW 0 (al0 h 0 (by decide)) 1 (by decide) wFL_X4_17 rfl rfl dX4_birdsDrivenBy_3 ?_
  refine lv_astore_n (lv' := [(3, .ref (h.2.2 2 0)), (2, .int 0), (0, .ref (h.2.2 0 0)), (1, .int a1)]) hx hb dX4_birdsDrivenBy_6 rfl hl (by decide) rfl (fun ls hl => ?_)
  refine lv_aload_n hx hb dX4_birdsDrivenBy_7 rfl (lv_at hl 0 rfl) ?_
  refine len2 C0 hK hW dX4_birdsDrivenBy_8 ?_
  refine lv_istore (lv' := [(4, .int 8), (3, .ref (h.2.2 2 0)), (2, .int 0), (0, .ref (h.2.2 0 0)), (1, .int a1)]) hx hb dX4_birdsDrivenBy_9 hl (by decide) rfl (fun ls hl => ?_)
  refine lv_iconst (v := 0) hx hb dX4_birdsDrivenBy_11 (by decide) ?_
  refine lv_istore (lv' := [(5, .int 0), (4, .int 8), (3, .ref (h.2.2 2 0)), (2, .int 0), (0, .ref (h.2.2 0 0)), (1, .int a1)]) hx hb dX4_birdsDrivenBy_12 hl (by decide) rfl (fun ls hl => ?_)
  obtain ⟨z5, hz5, hF⟩ := bnd hF
  refine lX4_birdsDrivenBy_14 C0 hlo hK hZ a1  _ 0 0 _ z5 hz5 _ _ _ hW hS (lv_sub hl [5, 3, 2, 1, 0] rfl) (fun H locs ls hW hS hl => ?_)
  refine lv_iload_n hx hb dX4_birdsDrivenBy_50 rfl (lv_at hl 0 rfl) ?_
  cases hF
  exact retI C0 hr hlk hW hS dX4_birdsDrivenBy_51
theorem hdX4_loadOn : yX4_loadOn.cls = RX4 ∧ yX4_loadOn.cls ≠ "java/lang/invoke/MethodHandle" ∧ yX4_loadOn.cls ≠ "java/lang/invoke/VarHandle" ∧ (parseMethodDescriptor yX4_loadOn.desc).map (fun d => d.parameters.length) = some 1 := by decide +kernel
def LX4_loadOn_15 (ns nb : Nat) (v1 : Int32) : Nat → Int32 → Int32 → Sg → Option (Int32 × Sg)
  | 0, _, _, _ => none
  | n + 1, v2, v5, σ => if 8 ≤ v5 then (some (v2, σ)) else (if (v5 < 0 ∨ 8 ≤ v5.toNatClampNeg) then none else (oc (iO nb v5.toNatClampNeg) (LX4_loadOn_15 ns nb v1 n v2 (v5 + 1) σ) (fun i2_ => if i2_ < nb then ((FX0_isDrivenBy ns nb σ i2_ v1).bind fun z3 => if z3.1 = 0 then (LX4_loadOn_15 ns nb v1 n v2 (v5 + 1) z3.2) else ((FX0_burden ns nb z3.2 i2_).bind fun z5 => LX4_loadOn_15 ns nb v1 n (v2 + z5.1) (v5 + 1) z5.2)) else none)))
def FX4_loadOn (ns nb : Nat) (σ : Sg) (a1 : Int32) : Option (Int32 × Sg) :=
  (LX4_loadOn_15 ns nb a1 4100 10 0 σ).bind fun z6 => some (z6.1, z6.2)
set_option maxHeartbeats 4000000 in
set_option maxRecDepth 100000 in
theorem lX4_loadOn_15 {p : Program} {l : Launch} {e : Env} {s : State} {m : MethodId} {args : Array Value} {below : List Frame} {meth : Method} {c : Code} {Q : State → Prop} {lo : Nat} {g : Gx} {h : Sh} (C0 : CallFix p m c cX4_loadOn 7 s args wB RX4) (hlo : lo ≤ s.heap.size) (hK : KW g s) (hZ : ZW lo s s.heap) (v1 : Int32)  : ∀ (n : Nat) (v2 : Int32) (v5 : Int32) (σ : Sg) (z : (Int32 × Sg)) (hF : LX4_loadOn_15 h.1 h.2.1 v1 n v2 v5 σ = some z) (H : Heap) (locs : List Loc) (ls : Array Slot) (hW : FW g h (Ax lo) σ H) (hS : va_S (Ax lo) s.heap H locs) (hl : lv_has ls 7 [(1, .int v1), (2, .int v2), (3, .ref (h.2.2 2 0)), (4, .int 8), (5, .int v5)]) (kk : ∀ (H : Heap) (locs : List Loc) (ls : Array Slot), FW g h (Ax lo) z.2 H → va_S (Ax lo) s.heap H locs → lv_has ls 7 [(2, .int z.1)] → W p l e { frames := 3, cells := 0, slots := 0, locals := 68 } s m args below meth c H locs 0 0 Q (F0 m 56 ls [])), W p l e { frames := 3, cells := 0, slots := 0, locals := 68 } s m args below meth c H locs 0 0 Q (F0 m 15 ls []) := by
  have hx := C0.1
  have hb := C0.2.1
  intro n
  induction n with
  | zero =>
    intro v2 v5 σ z hF
    rw [LX4_loadOn_15] at hF
    cases hF
  | succ n ih =>
    intro v2 v5 σ z hF H locs ls hW hS hl kk
    rw [LX4_loadOn_15] at hF
    refine lv_iload hx hb dX4_loadOn_15 (lv_at hl 4 rfl) ?_
    refine lv_iload hx hb dX4_loadOn_17 (lv_at hl 3 rfl) ?_
    refine lv_icmp_ge (tgt := 56) hx hb dX4_loadOn_19 (by decide) (fun c1 => ?_) (fun c1 => ?_)
    · rw [if_pos c1] at hF
      cases hF
      exact kk _ _ _ hW hS (lv_sub hl [1] rfl)
    · rw [if_neg c1] at hF
      refine lv_aload_n hx hb dX4_loadOn_22 rfl (lv_at hl 2 rfl) ?_
      refine lv_iload hx hb dX4_loadOn_23 (lv_at hl 4 rfl) ?_
      obtain ⟨hg, hF⟩ := grd hF
      refine ld2 C0 hK hW hg dX4_loadOn_25 ?_
      refine nspl (fun n2 => ?_) (fun i2_ n2 => ?_)
      · rw [n2, oc_n] at hF
        refine lv_astoreN (lv' := [(6, .null), (1, .int v1), (2, .int v2), (3, .ref (h.2.2 2 0)), (4, .int 8), (5, .int v5)]) hx hb dX4_loadOn_26 hl (by decide) rfl (fun ls hl => ?_)
        refine lv_aloadN hx hb dX4_loadOn_28 (lv_at hl 0 rfl) ?_
        refine lv_ifnullN (tgt := 50) hx hb dX4_loadOn_30 (by decide) ?_
        refine lv_iinc (v := v5 + 1) (lv' := [(5, .int (v5 + 1)), (6, .null), (1, .int v1), (2, .int v2), (3, .ref (h.2.2 2 0)), (4, .int 8)]) hx hb dX4_loadOn_50 hl (k := 5) rfl rfl (by decide) rfl (fun ls hl => ?_)
        refine lv_goto (tgt := 15) hx hb dX4_loadOn_53 (by decide) ?_
        exact ih v2 (v5 + 1) σ z hF _ _ _ hW hS (lv_sub hl [2, 3, 4, 5, 0] rfl) kk
      · rw [n2, oc_s] at hF
        obtain ⟨hi2_, hF⟩ := grp hF
        refine lv_astore (lv' := [(6, .ref (h.2.2 6 i2_)), (1, .int v1), (2, .int v2), (3, .ref (h.2.2 2 0)), (4, .int 8), (5, .int v5)]) hx hb dX4_loadOn_26 hl (by decide) rfl (fun ls hl => ?_)
        refine lv_aload hx hb dX4_loadOn_28 (lv_at hl 0 rfl) ?_
        refine lv_ifnull hx hb dX4_loadOn_30 ?_
        refine lv_aload hx hb dX4_loadOn_33 (lv_at hl 0 rfl) ?_
        refine lv_iload_n hx hb dX4_loadOn_35 rfl (lv_at hl 1 rfl) ?_
        obtain ⟨z3, hz3, hF⟩ := bnd hF
        refine inI (runV C0 hlo hK hZ hW hS (kX0_isDrivenBy l lo g h _ i2_ v1 hi2_ _ _ hz3) wCO_X0_isDrivenBy wML_X4_314 wIM_X0_isDrivenBy wSE_X0_X0_isDrivenBy wIN_X0 hdX0_isDrivenBy ⟨Nat.le_of_ble_eq_true rfl, Nat.le_of_ble_eq_true rfl⟩ (recvK hK hW (al6 6 hi2_ (by decide)) (ct6 i2_) rfl) rfl hl.1 rfl (Nat.le_of_ble_eq_true rfl) dX4_loadOn_36 ⟨Nat.le_of_ble_eq_true rfl, Nat.le_of_ble_eq_true rfl⟩) hS (fun H locs hW hS => ?_)
        refine lv_if_eq (tgt := 50) hx hb dX4_loadOn_39 (by decide) (fun c4 => ?_) (fun c4 => ?_)
        · rw [if_pos c4] at hF
          refine lv_iinc (v := v5 + 1) (lv' := [(5, .int (v5 + 1)), (6, .ref (h.2.2 6 i2_)), (1, .int v1), (2, .int v2), (3, .ref (h.2.2 2 0)), (4, .int 8)]) hx hb dX4_loadOn_50 hl (k := 5) rfl rfl (by decide) rfl (fun ls hl => ?_)
          refine lv_goto (tgt := 15) hx hb dX4_loadOn_53 (by decide) ?_
          exact ih v2 (v5 + 1) z3.2 z hF _ _ _ hW hS (lv_sub hl [2, 3, 4, 5, 0] rfl) kk
        · rw [if_neg c4] at hF
          refine lv_iload_n hx hb dX4_loadOn_42 rfl (lv_at hl 2 rfl) ?_
          refine lv_aload hx hb dX4_loadOn_43 (lv_at hl 0 rfl) ?_
          obtain ⟨z5, hz5, hF⟩ := bnd hF
          refine inI (runV C0 hlo hK hZ hW hS (kX0_burden l lo g h _ i2_ hi2_ _ _ hz5) wCO_X0_burden wML_X4_345 wIM_X0_burden wSE_X0_X0_burden wIN_X0 hdX0_burden ⟨Nat.le_of_ble_eq_true rfl, Nat.le_of_ble_eq_true rfl⟩ (recvK hK hW (al6 6 hi2_ (by decide)) (ct6 i2_) rfl) rfl hl.1 rfl (Nat.le_of_ble_eq_true rfl) dX4_loadOn_45 ⟨Nat.le_of_ble_eq_true rfl, Nat.le_of_ble_eq_true rfl⟩) hS (fun H locs hW hS => ?_)
          refine lv_iadd hx hb dX4_loadOn_48 ?_
          refine lv_istore_n (lv' := [(2, .int (v2 + z5.1)), (6, .ref (h.2.2 6 i2_)), (1, .int v1), (3, .ref (h.2.2 2 0)), (4, .int 8), (5, .int v5)]) hx hb dX4_loadOn_49 rfl hl (by decide) rfl (fun ls hl => ?_)
          refine lv_iinc (v := v5 + 1) (lv' := [(5, .int (v5 + 1)), (2, .int (v2 + z5.1)), (6, .ref (h.2.2 6 i2_)), (1, .int v1), (3, .ref (h.2.2 2 0)), (4, .int 8)]) hx hb dX4_loadOn_50 hl (k := 5) rfl rfl (by decide) rfl (fun ls hl => ?_)
          refine lv_goto (tgt := 15) hx hb dX4_loadOn_53 (by decide) ?_
          exact ih (v2 + z5.1) (v5 + 1) z5.2 z hF _ _ _ hW hS (lv_sub hl [3, 1, 4, 5, 0] rfl) kk
set_option maxHeartbeats 4000000 in
set_option maxRecDepth 100000 in
theorem kX4_loadOn (l : Launch) (lo : Nat) (g : Gx) (h : Sh) (σ : Sg) (a1 : Int32)  (r : Int32) (σ1 : Sg) (hF : FX4_loadOn h.1 h.2.1 σ a1 = some (r, σ1)) : MI l yX4_loadOn (ws_ yX4_loadOn cX4_loadOn 7 (some .int)) 3 68 0 0 lo g h [.ref (h.2.2 0 0), .int a1] σ r σ1 := by
  refine ofB (own := RX4) (by decide +kernel) rfl (fun p e s m below meth c C0 hr hlk hlo hK hZ hW hS ls hl => ?_) (Nat.le_of_ble_eq_true rfl)
  have hx := C0.1
  have hb := C0.2.1
  have hl : lv_has ls 7 [(0, .ref (h.2.2 0 0)), (1, .int a1)] := hl
  unfold FX4_loadOn at hF
  refine lv_bipush (v := 10) hx hb dX4_loadOn_0 (by decide) ?_
  refine lv_istore_n (lv' := [(2, .int 10), (0, .ref (h.2.2 0 0)), (1, .int a1)]) hx hb dX4_loadOn_2 rfl hl (by decide) rfl (fun ls hl => ?_)
  refine lv_aload_n hx hb dX4_loadOn_3 rfl (lv_at hl 1 rfl) ?_
  refine get0 C0 hK hW 0 (al0 h 0 (by decide)) 1 (by decide) wFL_X4_17 rfl rfl dX4_loadOn_4 ?_
  refine lv_astore_n (lv' := [(3, .ref (h.2.2 2 0)), (2, .int 10), (0, .ref (h.2.2 0 0)), (1, .int a1)]) hx hb dX4_loadOn_7 rfl hl (by decide) rfl (fun ls hl => ?_)
  refine lv_aload_n hx hb dX4_loadOn_8 rfl (lv_at hl 0 rfl) ?_
  refine len2 C0 hK hW dX4_loadOn_9 ?_
  refine lv_istore (lv' := [(4, .int 8), (3, .ref (h.2.2 2 0)), (2, .int 10), (0, .ref (h.2.2 0 0)), (1, .int a1)]) hx hb dX4_loadOn_10 hl (by decide) rfl (fun ls hl => ?_)
  refine lv_iconst (v := 0) hx hb dX4_loadOn_12 (by decide) ?_
  refine lv_istore (lv' := [(5, .int 0), (4, .int 8), (3, .ref (h.2.2 2 0)), (2, .int 10), (0, .ref (h.2.2 0 0)), (1, .int a1)]) hx hb dX4_loadOn_13 hl (by decide) rfl (fun ls hl => ?_)
  obtain ⟨z6, hz6, hF⟩ := bnd hF
  refine lX4_loadOn_15 C0 hlo hK hZ a1  _ 10 0 _ z6 hz6 _ _ _ hW hS (lv_sub hl [5, 3, 2, 1, 0] rfl) (fun H locs ls hW hS hl => ?_)
  refine lv_iload_n hx hb dX4_loadOn_56 rfl (lv_at hl 0 rfl) ?_
  cases hF
  exact retI C0 hr hlk hW hS dX4_loadOn_57
theorem hdX4_heldByAll : yX4_heldByAll.cls = RX4 ∧ yX4_heldByAll.cls ≠ "java/lang/invoke/MethodHandle" ∧ yX4_heldByAll.cls ≠ "java/lang/invoke/VarHandle" ∧ (parseMethodDescriptor yX4_heldByAll.desc).map (fun d => d.parameters.length) = some 0 := by decide +kernel
def LX4_heldByAll_13 (ns nb : Nat) : Nat → Int32 → Int32 → Sg → Option (Int32 × Sg)
  | 0, _, _, _ => none
  | n + 1, v1, v4, σ => if 4 ≤ v4 then (some (v1, σ)) else (if (v4 < 0 ∨ 4 ≤ v4.toNatClampNeg) then none else (oc (iO ns v4.toNatClampNeg) (LX4_heldByAll_13 ns nb  n v1 (v4 + 1) σ) (fun i2_ => if i2_ < ns then (LX4_heldByAll_13 ns nb  n (v1 + (σ.1 5 i2_ 1)) (v4 + 1) σ) else none)))
def FX4_heldByAll (ns nb : Nat) (σ : Sg)  : Option (Int32 × Sg) :=
  (LX4_heldByAll_13 ns nb  4100 0 0 σ).bind fun z3 => some (z3.1, z3.2)
set_option maxHeartbeats 4000000 in
set_option maxRecDepth 100000 in
theorem lX4_heldByAll_13 {p : Program} {l : Launch} {e : Env} {s : State} {m : MethodId} {args : Array Value} {below : List Frame} {meth : Method} {c : Code} {Q : State → Prop} {lo : Nat} {g : Gx} {h : Sh} (C0 : CallFix p m c cX4_heldByAll 6 s args wB RX4) (hlo : lo ≤ s.heap.size) (hK : KW g s) (hZ : ZW lo s s.heap)   : ∀ (n : Nat) (v1 : Int32) (v4 : Int32) (σ : Sg) (z : (Int32 × Sg)) (hF : LX4_heldByAll_13 h.1 h.2.1  n v1 v4 σ = some z) (H : Heap) (locs : List Loc) (ls : Array Slot) (hW : FW g h (Ax lo) σ H) (hS : va_S (Ax lo) s.heap H locs) (hl : lv_has ls 6 [(1, .int v1), (2, .ref (h.2.2 1 0)), (3, .int 4), (4, .int v4)]) (kk : ∀ (H : Heap) (locs : List Loc) (ls : Array Slot), FW g h (Ax lo) z.2 H → va_S (Ax lo) s.heap H locs → lv_has ls 6 [(1, .int z.1)] → W p l e { frames := 0, cells := 0, slots := 0, locals := 0 } s m args below meth c H locs 0 0 Q (F0 m 44 ls [])), W p l e { frames := 0, cells := 0, slots := 0, locals := 0 } s m args below meth c H locs 0 0 Q (F0 m 13 ls []) := by
  have hx := C0.1
  have hb := C0.2.1
  intro n
  induction n with
  | zero =>
    intro v1 v4 σ z hF
    rw [LX4_heldByAll_13] at hF
    cases hF
  | succ n ih =>
    intro v1 v4 σ z hF H locs ls hW hS hl kk
    rw [LX4_heldByAll_13] at hF
    refine lv_iload hx hb dX4_heldByAll_13 (lv_at hl 3 rfl) ?_
    refine lv_iload_n hx hb dX4_heldByAll_15 rfl (lv_at hl 2 rfl) ?_
    refine lv_icmp_ge (tgt := 44) hx hb dX4_heldByAll_16 (by decide) (fun c1 => ?_) (fun c1 => ?_)
    · rw [if_pos c1] at hF
      cases hF
      exact kk _ _ _ hW hS (lv_sub hl [0] rfl)
    · rw [if_neg c1] at hF
      refine lv_aload_n hx hb dX4_heldByAll_19 rfl (lv_at hl 1 rfl) ?_
      refine lv_iload hx hb dX4_heldByAll_20 (lv_at hl 3 rfl) ?_
      obtain ⟨hg, hF⟩ := grd hF
      refine ld1 C0 hK hW hg dX4_heldByAll_22 ?_
      refine nspl (fun n2 => ?_) (fun i2_ n2 => ?_)
      · rw [n2, oc_n] at hF
        refine lv_astoreN (lv' := [(5, .null), (1, .int v1), (2, .ref (h.2.2 1 0)), (3, .int 4), (4, .int v4)]) hx hb dX4_heldByAll_23 hl (by decide) rfl (fun ls hl => ?_)
        refine lv_aloadN hx hb dX4_heldByAll_25 (lv_at hl 0 rfl) ?_
        refine lv_ifnullN (tgt := 38) hx hb dX4_heldByAll_27 (by decide) ?_
        refine lv_iinc (v := v4 + 1) (lv' := [(4, .int (v4 + 1)), (5, .null), (1, .int v1), (2, .ref (h.2.2 1 0)), (3, .int 4)]) hx hb dX4_heldByAll_38 hl (k := 4) rfl rfl (by decide) rfl (fun ls hl => ?_)
        refine lv_goto (tgt := 13) hx hb dX4_heldByAll_41 (by decide) ?_
        exact ih v1 (v4 + 1) σ z hF _ _ _ hW hS (lv_sub hl [2, 3, 4, 0] rfl) kk
      · rw [n2, oc_s] at hF
        obtain ⟨hi2_, hF⟩ := grp hF
        refine lv_astore (lv' := [(5, .ref (h.2.2 5 i2_)), (1, .int v1), (2, .ref (h.2.2 1 0)), (3, .int 4), (4, .int v4)]) hx hb dX4_heldByAll_23 hl (by decide) rfl (fun ls hl => ?_)
        refine lv_aload hx hb dX4_heldByAll_25 (lv_at hl 0 rfl) ?_
        refine lv_ifnull hx hb dX4_heldByAll_27 ?_
        refine lv_iload_n hx hb dX4_heldByAll_30 rfl (lv_at hl 1 rfl) ?_
        refine lv_aload hx hb dX4_heldByAll_31 (lv_at hl 0 rfl) ?_
        refine get5 C0 hK hW i2_ (al5 hi2_) 1 (by decide) wFL_X4_63 rfl rfl dX4_heldByAll_33 ?_
        refine lv_iadd hx hb dX4_heldByAll_36 ?_
        refine lv_istore_n (lv' := [(1, .int (v1 + (σ.1 5 i2_ 1))), (5, .ref (h.2.2 5 i2_)), (2, .ref (h.2.2 1 0)), (3, .int 4), (4, .int v4)]) hx hb dX4_heldByAll_37 rfl hl (by decide) rfl (fun ls hl => ?_)
        refine lv_iinc (v := v4 + 1) (lv' := [(4, .int (v4 + 1)), (1, .int (v1 + (σ.1 5 i2_ 1))), (5, .ref (h.2.2 5 i2_)), (2, .ref (h.2.2 1 0)), (3, .int 4)]) hx hb dX4_heldByAll_38 hl (k := 4) rfl rfl (by decide) rfl (fun ls hl => ?_)
        refine lv_goto (tgt := 13) hx hb dX4_heldByAll_41 (by decide) ?_
        exact ih (v1 + (σ.1 5 i2_ 1)) (v4 + 1) σ z hF _ _ _ hW hS (lv_sub hl [1, 3, 4, 0] rfl) kk
set_option maxHeartbeats 4000000 in
set_option maxRecDepth 100000 in
theorem kX4_heldByAll (l : Launch) (lo : Nat) (g : Gx) (h : Sh) (σ : Sg)   (r : Int32) (σ1 : Sg) (hF : FX4_heldByAll h.1 h.2.1 σ  = some (r, σ1)) : MI l yX4_heldByAll (ws_ yX4_heldByAll cX4_heldByAll 6 (some .int)) 0 0 0 0 lo g h [.ref (h.2.2 0 0)] σ r σ1 := by
  refine ofB (own := RX4) (by decide +kernel) rfl (fun p e s m below meth c C0 hr hlk hlo hK hZ hW hS ls hl => ?_) (Nat.le_of_ble_eq_true rfl)
  have hx := C0.1
  have hb := C0.2.1
  have hl : lv_has ls 6 [(0, .ref (h.2.2 0 0))] := hl
  unfold FX4_heldByAll at hF
  refine lv_iconst (v := 0) hx hb dX4_heldByAll_0 (by decide) ?_
  refine lv_istore_n (lv' := [(1, .int 0), (0, .ref (h.2.2 0 0))]) hx hb dX4_heldByAll_1 rfl hl (by decide) rfl (fun ls hl => ?_)
  refine lv_aload_n hx hb dX4_heldByAll_2 rfl (lv_at hl 1 rfl) ?_
  refine get0 C0 hK hW 0 (al0 h 0 (by decide)) 0 (by decide) wFL_X4_11 rfl rfl dX4_heldByAll_3 ?_
  refine lv_astore_n (lv' := [(2, .ref (h.2.2 1 0)), (1, .int 0), (0, .ref (h.2.2 0 0))]) hx hb dX4_heldByAll_6 rfl hl (by decide) rfl (fun ls hl => ?_)
  refine lv_aload_n hx hb dX4_heldByAll_7 rfl (lv_at hl 0 rfl) ?_
  refine len1 C0 hK hW dX4_heldByAll_8 ?_
  refine lv_istore_n (lv' := [(3, .int 4), (2, .ref (h.2.2 1 0)), (1, .int 0), (0, .ref (h.2.2 0 0))]) hx hb dX4_heldByAll_9 rfl hl (by decide) rfl (fun ls hl => ?_)
  refine lv_iconst (v := 0) hx hb dX4_heldByAll_10 (by decide) ?_
  refine lv_istore (lv' := [(4, .int 0), (3, .int 4), (2, .ref (h.2.2 1 0)), (1, .int 0), (0, .ref (h.2.2 0 0))]) hx hb dX4_heldByAll_11 hl (by decide) rfl (fun ls hl => ?_)
  obtain ⟨z3, hz3, hF⟩ := bnd hF
  refine lX4_heldByAll_13 C0 hlo hK hZ   _ 0 0 _ z3 hz3 _ _ _ hW hS (lv_sub hl [3, 2, 1, 0] rfl) (fun H locs ls hW hS hl => ?_)
  refine lv_iload_n hx hb dX4_heldByAll_44 rfl (lv_at hl 0 rfl) ?_
  cases hF
  exact retI C0 hr hlk hW hS dX4_heldByAll_45
theorem hdX4_shareBetweenCoupled : yX4_shareBetweenCoupled.cls = RX4 ∧ yX4_shareBetweenCoupled.cls ≠ "java/lang/invoke/MethodHandle" ∧ yX4_shareBetweenCoupled.cls ≠ "java/lang/invoke/VarHandle" ∧ (parseMethodDescriptor yX4_shareBetweenCoupled.desc).map (fun d => d.parameters.length) = some 0 := by decide +kernel
def LX4_shareBetweenCoupled_15 (ns nb : Nat) (v1 : Int32) : Nat → Int32 → Sg → Option (Sg)
  | 0, _, _ => none
  | n + 1, v2, σ => if 4 ≤ v2 then (some (σ)) else ((FX4_pairBit ns nb σ v1 v2).bind fun z3 => if ((σ.1 0 0 5) &&& z3.1) = 0 then (LX4_shareBetweenCoupled_15 ns nb v1 n (v2 + 1) z3.2) else ((FX4_springAt ns nb z3.2 v1).bind fun z5 => oc z5.1 ((FX4_springAt ns nb z5.2 v2).bind fun z6 => oc z6.1 ((FX4_shareBetween ns nb z6.2 none none).bind fun z7 => LX4_shareBetweenCoupled_15 ns nb v1 n (v2 + 1) z7) (fun iz6 => if iz6 < ns then ((FX4_shareBetween ns nb z6.2 none (some iz6)).bind fun z8 => LX4_shareBetweenCoupled_15 ns nb v1 n (v2 + 1) z8) else none)) (fun iz5 => if iz5 < ns then ((FX4_springAt ns nb z5.2 v2).bind fun z9 => oc z9.1 ((FX4_shareBetween ns nb z9.2 (some iz5) none).bind fun z10 => LX4_shareBetweenCoupled_15 ns nb v1 n (v2 + 1) z10) (fun iz9 => if iz9 < ns then ((FX4_shareBetween ns nb z9.2 (some iz5) (some iz9)).bind fun z11 => LX4_shareBetweenCoupled_15 ns nb v1 n (v2 + 1) z11) else none)) else none)))
def LX4_shareBetweenCoupled_2 (ns nb : Nat) : Nat → Int32 → Sg → Option (Sg)
  | 0, _, _ => none
  | n + 1, v1, σ => if 4 ≤ v1 then (some (σ)) else ((LX4_shareBetweenCoupled_15 ns nb v1 4100 (v1 + 1) σ).bind fun z12 => LX4_shareBetweenCoupled_2 ns nb  n (v1 + 1) z12)
def FX4_shareBetweenCoupled (ns nb : Nat) (σ : Sg)  : Option Sg :=
  (LX4_shareBetweenCoupled_2 ns nb  4100 0 σ).bind fun z13 => some z13
set_option maxHeartbeats 4000000 in
set_option maxRecDepth 100000 in
theorem lX4_shareBetweenCoupled_15 {p : Program} {l : Launch} {e : Env} {s : State} {m : MethodId} {args : Array Value} {below : List Frame} {meth : Method} {c : Code} {Q : State → Prop} {lo : Nat} {g : Gx} {h : Sh} (C0 : CallFix p m c cX4_shareBetweenCoupled 3 s args wB RX4) (hlo : lo ≤ s.heap.size) (hK : KW g s) (hZ : ZW lo s s.heap) (v1 : Int32)  : ∀ (n : Nat) (v2 : Int32) (σ : Sg) (z : (Sg)) (hF : LX4_shareBetweenCoupled_15 h.1 h.2.1 v1 n v2 σ = some z) (H : Heap) (locs : List Loc) (ls : Array Slot) (hW : FW g h (Ax lo) σ H) (hS : va_S (Ax lo) s.heap H locs) (hl : lv_has ls 3 [(0, .ref (h.2.2 0 0)), (1, .int v1), (2, .int v2)]) (kk : ∀ (H : Heap) (locs : List Loc) (ls : Array Slot), FW g h (Ax lo) z H → va_S (Ax lo) s.heap H locs → lv_has ls 3 [(0, .ref (h.2.2 0 0)), (1, .int v1)] → W p l e { frames := 2, cells := 0, slots := 0, locals := 44 } s m args below meth c H locs 0 0 Q (F0 m 56 ls [])), W p l e { frames := 2, cells := 0, slots := 0, locals := 44 } s m args below meth c H locs 0 0 Q (F0 m 15 ls []) := by
  have hx := C0.1
  have hb := C0.2.1
  intro n
  induction n with
  | zero =>
    intro v2 σ z hF
    rw [LX4_shareBetweenCoupled_15] at hF
    cases hF
  | succ n ih =>
    intro v2 σ z hF H locs ls hW hS hl kk
    rw [LX4_shareBetweenCoupled_15] at hF
    refine lv_iload_n hx hb dX4_shareBetweenCoupled_15 rfl (lv_at hl 2 rfl) ?_
    refine lv_aload_n hx hb dX4_shareBetweenCoupled_16 rfl (lv_at hl 0 rfl) ?_
    refine get0 C0 hK hW 0 (al0 h 0 (by decide)) 0 (by decide) wFL_X4_11 rfl rfl dX4_shareBetweenCoupled_17 ?_
    refine len1 C0 hK hW dX4_shareBetweenCoupled_20 ?_
    refine lv_icmp_ge (tgt := 56) hx hb dX4_shareBetweenCoupled_21 (by decide) (fun c2 => ?_) (fun c2 => ?_)
    · rw [if_pos c2] at hF
      cases hF
      exact kk _ _ _ hW hS (lv_sub hl [0, 1] rfl)
    · rw [if_neg c2] at hF
      refine lv_aload_n hx hb dX4_shareBetweenCoupled_24 rfl (lv_at hl 0 rfl) ?_
      refine get0 C0 hK hW 0 (al0 h 0 (by decide)) 5 (by decide) wFL_X4_81 rfl rfl dX4_shareBetweenCoupled_25 ?_
      refine lv_iload_n hx hb dX4_shareBetweenCoupled_28 rfl (lv_at hl 1 rfl) ?_
      refine lv_iload_n hx hb dX4_shareBetweenCoupled_29 rfl (lv_at hl 2 rfl) ?_
      obtain ⟨z3, hz3, hF⟩ := bnd hF
      refine inI (runS C0 hlo hK hZ hW hS (kX4_pairBit l lo g h _ v1 v2  _ _ hz3) wCO_X4_pairBit wML_X4_78 wST_X4_pairBit wIN_X4 hdsX4_pairBit ⟨Nat.le_of_ble_eq_true rfl, Nat.le_of_ble_eq_true rfl⟩ rfl hl.1 rfl (Nat.le_of_ble_eq_true rfl) dX4_shareBetweenCoupled_30 ⟨Nat.le_of_ble_eq_true rfl, Nat.le_of_ble_eq_true rfl⟩) hS (fun H locs hW hS => ?_)
      refine lv_iand hx hb dX4_shareBetweenCoupled_33 ?_
      refine lv_if_eq (tgt := 50) hx hb dX4_shareBetweenCoupled_34 (by decide) (fun c4 => ?_) (fun c4 => ?_)
      · rw [if_pos c4] at hF
        refine lv_iinc (v := v2 + 1) (lv' := [(2, .int (v2 + 1)), (0, .ref (h.2.2 0 0)), (1, .int v1)]) hx hb dX4_shareBetweenCoupled_50 hl (k := 2) rfl rfl (by decide) rfl (fun ls hl => ?_)
        refine lv_goto (tgt := 15) hx hb dX4_shareBetweenCoupled_53 (by decide) ?_
        exact ih (v2 + 1) z3.2 z hF _ _ _ hW hS (lv_sub hl [1, 2, 0] rfl) kk
      · rw [if_neg c4] at hF
        refine lv_aload_n hx hb dX4_shareBetweenCoupled_37 rfl (lv_at hl 0 rfl) ?_
        refine lv_iload_n hx hb dX4_shareBetweenCoupled_38 rfl (lv_at hl 1 rfl) ?_
        obtain ⟨z5, hz5, hF⟩ := bnd hF
        refine inR (runV C0 hlo hK hZ hW hS (kX4_springAt l lo g h _ v1  _ _ hz5) wCO_X4_springAt wML_X4_51 wIM_X4_springAt wSE_X4_X4_springAt wIN_X4 hdX4_springAt ⟨Nat.le_of_ble_eq_true rfl, Nat.le_of_ble_eq_true rfl⟩ (recvK hK hW (al0 h 0 (by decide)) (ct0 0) rfl) rfl hl.1 rfl (Nat.le_of_ble_eq_true rfl) dX4_shareBetweenCoupled_39 ⟨Nat.le_of_ble_eq_true rfl, Nat.le_of_ble_eq_true rfl⟩) hS (fun H locs hW hS => ?_)
        refine nspl (fun nz5 => ?_) (fun iz5 nz5 => ?_)
        · rw [nz5, oc_n] at hF
          refine lv_aload_n hx hb dX4_shareBetweenCoupled_42 rfl (lv_at hl 0 rfl) ?_
          refine lv_iload_n hx hb dX4_shareBetweenCoupled_43 rfl (lv_at hl 2 rfl) ?_
          obtain ⟨z6, hz6, hF⟩ := bnd hF
          refine inR (runV C0 hlo hK hZ hW hS (kX4_springAt l lo g h _ v2  _ _ hz6) wCO_X4_springAt wML_X4_51 wIM_X4_springAt wSE_X4_X4_springAt wIN_X4 hdX4_springAt ⟨Nat.le_of_ble_eq_true rfl, Nat.le_of_ble_eq_true rfl⟩ (recvK hK hW (al0 h 0 (by decide)) (ct0 0) rfl) rfl hl.1 rfl (Nat.le_of_ble_eq_true rfl) dX4_shareBetweenCoupled_44 ⟨Nat.le_of_ble_eq_true rfl, Nat.le_of_ble_eq_true rfl⟩) hS (fun H locs hW hS => ?_)
          refine nspl (fun nz6 => ?_) (fun iz6 nz6 => ?_)
          · rw [nz6, oc_n] at hF
            obtain ⟨z7, hz7, hF⟩ := bnd hF
            refine inV (runS C0 hlo hK hZ hW hS (kX4_shareBetween l lo g h _ none none  _ hz7) wCO_X4_shareBetween wML_X4_304 wST_X4_shareBetween wIN_X4 hdsX4_shareBetween ⟨Nat.le_of_ble_eq_true rfl, Nat.le_of_ble_eq_true rfl⟩ rfl hl.1 rfl (Nat.le_of_ble_eq_true rfl) dX4_shareBetweenCoupled_47 ⟨Nat.le_of_ble_eq_true rfl, Nat.le_of_ble_eq_true rfl⟩) hS (fun H locs hW hS => ?_)
            refine lv_iinc (v := v2 + 1) (lv' := [(2, .int (v2 + 1)), (0, .ref (h.2.2 0 0)), (1, .int v1)]) hx hb dX4_shareBetweenCoupled_50 hl (k := 2) rfl rfl (by decide) rfl (fun ls hl => ?_)
            refine lv_goto (tgt := 15) hx hb dX4_shareBetweenCoupled_53 (by decide) ?_
            exact ih (v2 + 1) z7 z hF _ _ _ hW hS (lv_sub hl [1, 2, 0] rfl) kk
          · rw [nz6, oc_s] at hF
            obtain ⟨hiz6, hF⟩ := grp hF
            obtain ⟨z8, hz8, hF⟩ := bnd hF
            refine inV (runS C0 hlo hK hZ hW hS (kX4_shareBetween l lo g h _ none (some iz6)  _ hz8) wCO_X4_shareBetween wML_X4_304 wST_X4_shareBetween wIN_X4 hdsX4_shareBetween ⟨Nat.le_of_ble_eq_true rfl, Nat.le_of_ble_eq_true rfl⟩ rfl hl.1 rfl (Nat.le_of_ble_eq_true rfl) dX4_shareBetweenCoupled_47 ⟨Nat.le_of_ble_eq_true rfl, Nat.le_of_ble_eq_true rfl⟩) hS (fun H locs hW hS => ?_)
            refine lv_iinc (v := v2 + 1) (lv' := [(2, .int (v2 + 1)), (0, .ref (h.2.2 0 0)), (1, .int v1)]) hx hb dX4_shareBetweenCoupled_50 hl (k := 2) rfl rfl (by decide) rfl (fun ls hl => ?_)
            refine lv_goto (tgt := 15) hx hb dX4_shareBetweenCoupled_53 (by decide) ?_
            exact ih (v2 + 1) z8 z hF _ _ _ hW hS (lv_sub hl [1, 2, 0] rfl) kk
        · rw [nz5, oc_s] at hF
          obtain ⟨hiz5, hF⟩ := grp hF
          refine lv_aload_n hx hb dX4_shareBetweenCoupled_42 rfl (lv_at hl 0 rfl) ?_
          refine lv_iload_n hx hb dX4_shareBetweenCoupled_43 rfl (lv_at hl 2 rfl) ?_
          obtain ⟨z9, hz9, hF⟩ := bnd hF
          refine inR (runV C0 hlo hK hZ hW hS (kX4_springAt l lo g h _ v2  _ _ hz9) wCO_X4_springAt wML_X4_51 wIM_X4_springAt wSE_X4_X4_springAt wIN_X4 hdX4_springAt ⟨Nat.le_of_ble_eq_true rfl, Nat.le_of_ble_eq_true rfl⟩ (recvK hK hW (al0 h 0 (by decide)) (ct0 0) rfl) rfl hl.1 rfl (Nat.le_of_ble_eq_true rfl) dX4_shareBetweenCoupled_44 ⟨Nat.le_of_ble_eq_true rfl, Nat.le_of_ble_eq_true rfl⟩) hS (fun H locs hW hS => ?_)
          refine nspl (fun nz9 => ?_) (fun iz9 nz9 => ?_)
          · rw [nz9, oc_n] at hF
            obtain ⟨z10, hz10, hF⟩ := bnd hF
            refine inV (runS C0 hlo hK hZ hW hS (kX4_shareBetween l lo g h _ (some iz5) none  _ hz10) wCO_X4_shareBetween wML_X4_304 wST_X4_shareBetween wIN_X4 hdsX4_shareBetween ⟨Nat.le_of_ble_eq_true rfl, Nat.le_of_ble_eq_true rfl⟩ rfl hl.1 rfl (Nat.le_of_ble_eq_true rfl) dX4_shareBetweenCoupled_47 ⟨Nat.le_of_ble_eq_true rfl, Nat.le_of_ble_eq_true rfl⟩) hS (fun H locs hW hS => ?_)
            refine lv_iinc (v := v2 + 1) (lv' := [(2, .int (v2 + 1)), (0, .ref (h.2.2 0 0)), (1, .int v1)]) hx hb dX4_shareBetweenCoupled_50 hl (k := 2) rfl rfl (by decide) rfl (fun ls hl => ?_)
            refine lv_goto (tgt := 15) hx hb dX4_shareBetweenCoupled_53 (by decide) ?_
            exact ih (v2 + 1) z10 z hF _ _ _ hW hS (lv_sub hl [1, 2, 0] rfl) kk
          · rw [nz9, oc_s] at hF
            obtain ⟨hiz9, hF⟩ := grp hF
            obtain ⟨z11, hz11, hF⟩ := bnd hF
            refine inV (runS C0 hlo hK hZ hW hS (kX4_shareBetween l lo g h _ (some iz5) (some iz9)  _ hz11) wCO_X4_shareBetween wML_X4_304 wST_X4_shareBetween wIN_X4 hdsX4_shareBetween ⟨Nat.le_of_ble_eq_true rfl, Nat.le_of_ble_eq_true rfl⟩ rfl hl.1 rfl (Nat.le_of_ble_eq_true rfl) dX4_shareBetweenCoupled_47 ⟨Nat.le_of_ble_eq_true rfl, Nat.le_of_ble_eq_true rfl⟩) hS (fun H locs hW hS => ?_)
            refine lv_iinc (v := v2 + 1) (lv' := [(2, .int (v2 + 1)), (0, .ref (h.2.2 0 0)), (1, .int v1)]) hx hb dX4_shareBetweenCoupled_50 hl (k := 2) rfl rfl (by decide) rfl (fun ls hl => ?_)
            refine lv_goto (tgt := 15) hx hb dX4_shareBetweenCoupled_53 (by decide) ?_
            exact ih (v2 + 1) z11 z hF _ _ _ hW hS (lv_sub hl [1, 2, 0] rfl) kk
set_option maxHeartbeats 4000000 in
set_option maxRecDepth 100000 in
theorem lX4_shareBetweenCoupled_2 {p : Program} {l : Launch} {e : Env} {s : State} {m : MethodId} {args : Array Value} {below : List Frame} {meth : Method} {c : Code} {Q : State → Prop} {lo : Nat} {g : Gx} {h : Sh} (C0 : CallFix p m c cX4_shareBetweenCoupled 3 s args wB RX4) (hlo : lo ≤ s.heap.size) (hK : KW g s) (hZ : ZW lo s s.heap)   : ∀ (n : Nat) (v1 : Int32) (σ : Sg) (z : (Sg)) (hF : LX4_shareBetweenCoupled_2 h.1 h.2.1  n v1 σ = some z) (H : Heap) (locs : List Loc) (ls : Array Slot) (hW : FW g h (Ax lo) σ H) (hS : va_S (Ax lo) s.heap H locs) (hl : lv_has ls 3 [(0, .ref (h.2.2 0 0)), (1, .int v1)]) (kk : ∀ (H : Heap) (locs : List Loc) (ls : Array Slot), FW g h (Ax lo) z H → va_S (Ax lo) s.heap H locs → lv_has ls 3 [] → W p l e { frames := 2, cells := 0, slots := 0, locals := 44 } s m args below meth c H locs 0 0 Q (F0 m 62 ls [])), W p l e { frames := 2, cells := 0, slots := 0, locals := 44 } s m args below meth c H locs 0 0 Q (F0 m 2 ls []) := by
  have hx := C0.1
  have hb := C0.2.1
  intro n
  induction n with
  | zero =>
    intro v1 σ z hF
    rw [LX4_shareBetweenCoupled_2] at hF
    cases hF
  | succ n ih =>
    intro v1 σ z hF H locs ls hW hS hl kk
    rw [LX4_shareBetweenCoupled_2] at hF
    refine lv_iload_n hx hb dX4_shareBetweenCoupled_2 rfl (lv_at hl 1 rfl) ?_
    refine lv_aload_n hx hb dX4_shareBetweenCoupled_3 rfl (lv_at hl 0 rfl) ?_
    refine get0 C0 hK hW 0 (al0 h 0 (by decide)) 0 (by decide) wFL_X4_11 rfl rfl dX4_shareBetweenCoupled_4 ?_
    refine len1 C0 hK hW dX4_shareBetweenCoupled_7 ?_
    refine lv_icmp_ge (tgt := 62) hx hb dX4_shareBetweenCoupled_8 (by decide) (fun c1 => ?_) (fun c1 => ?_)
    · rw [if_pos c1] at hF
      cases hF
      exact kk _ _ _ hW hS (lv_sub hl [] rfl)
    · rw [if_neg c1] at hF
      refine lv_iload_n hx hb dX4_shareBetweenCoupled_11 rfl (lv_at hl 1 rfl) ?_
      refine lv_iconst (v := 1) hx hb dX4_shareBetweenCoupled_12 (by decide) ?_
      refine lv_iadd hx hb dX4_shareBetweenCoupled_13 ?_
      refine lv_istore_n (lv' := [(2, .int (v1 + 1)), (0, .ref (h.2.2 0 0)), (1, .int v1)]) hx hb dX4_shareBetweenCoupled_14 rfl hl (by decide) rfl (fun ls hl => ?_)
      obtain ⟨z12, hz12, hF⟩ := bnd hF
      refine lX4_shareBetweenCoupled_15 C0 hlo hK hZ v1  _ (v1 + 1) _ z12 hz12 _ _ _ hW hS (lv_sub hl [1, 2, 0] rfl) (fun H locs ls hW hS hl => ?_)
      refine lv_iinc (v := v1 + 1) (lv' := [(1, .int (v1 + 1)), (0, .ref (h.2.2 0 0))]) hx hb dX4_shareBetweenCoupled_56 hl (k := 1) rfl rfl (by decide) rfl (fun ls hl => ?_)
      refine lv_goto (tgt := 2) hx hb dX4_shareBetweenCoupled_59 (by decide) ?_
      exact ih (v1 + 1) z12 z hF _ _ _ hW hS (lv_sub hl [1, 0] rfl) kk
set_option maxHeartbeats 4000000 in
set_option maxRecDepth 100000 in
theorem kX4_shareBetweenCoupled (l : Launch) (lo : Nat) (g : Gx) (h : Sh) (σ : Sg)   (σ1 : Sg) (hF : FX4_shareBetweenCoupled h.1 h.2.1 σ  = some σ1) : MV l yX4_shareBetweenCoupled (ws_ yX4_shareBetweenCoupled cX4_shareBetweenCoupled 3 none) 2 44 0 0 lo g h [.ref (h.2.2 0 0)] σ σ1 := by
  refine ofB (own := RX4) (by decide +kernel) rfl (fun p e s m below meth c C0 hr hlk hlo hK hZ hW hS ls hl => ?_) (Nat.le_of_ble_eq_true rfl)
  have hx := C0.1
  have hb := C0.2.1
  have hl : lv_has ls 3 [(0, .ref (h.2.2 0 0))] := hl
  unfold FX4_shareBetweenCoupled at hF
  refine lv_iconst (v := 0) hx hb dX4_shareBetweenCoupled_0 (by decide) ?_
  refine lv_istore_n (lv' := [(1, .int 0), (0, .ref (h.2.2 0 0))]) hx hb dX4_shareBetweenCoupled_1 rfl hl (by decide) rfl (fun ls hl => ?_)
  obtain ⟨z13, hz13, hF⟩ := bnd hF
  refine lX4_shareBetweenCoupled_2 C0 hlo hK hZ   _ 0 _ z13 hz13 _ _ _ hW hS (lv_sub hl [1, 0] rfl) (fun H locs ls hW hS hl => ?_)
  cases hF
  exact retV C0 hr hlk hW hS dX4_shareBetweenCoupled_62
theorem hdX4_soundPlace : yX4_soundPlace.cls = RX4 ∧ yX4_soundPlace.cls ≠ "java/lang/invoke/MethodHandle" ∧ yX4_soundPlace.cls ≠ "java/lang/invoke/VarHandle" ∧ (parseMethodDescriptor yX4_soundPlace.desc).map (fun d => d.parameters.length) = some 4 := by decide +kernel
def LX4_soundPlace_6 (ns nb : Nat) (v1 : Int32) (j2 : Nat) (j3 : Nat) (v4 : Int32) : Nat → Int32 → Int32 → Sg → Option (Int32 × Sg)
  | 0, _, _, _ => none
  | n + 1, v5, v6, σ => if 6 ≤ v6 then (some (v5, σ)) else ((FX0_hasPin ns nb σ j2 v4 v6).bind fun z2 => if z2.1 = 0 then (LX4_soundPlace_6 ns nb v1 j2 j3 v4 n v5 (v6 + 1) z2.2) else ((FX3_payForNote ns nb z2.2 j3).bind fun z4 => (FX4_at ns nb z4 8 j2 v6).bind fun z5 => (FX2_hear ns nb z5.2 (z4.1 0 0 6) v1 v6 z5.1).bind fun z6 => LX4_soundPlace_6 ns nb v1 j2 j3 v4 n (v5 + 1) (v6 + 1) z6))
def FX4_soundPlace (ns nb : Nat) (σ : Sg) (a1 : Int32) (i2 : Nat) (i3 : Nat) (a4 : Int32) : Option (Int32 × Sg) :=
  (LX4_soundPlace_6 ns nb a1 i2 i3 a4 4100 0 0 σ).bind fun z7 => some (z7.1, (sI z7.2 6 i2 12 ((z7.2.1 6 i2 12) + z7.1)))
set_option maxHeartbeats 4000000 in
set_option maxRecDepth 100000 in
theorem lX4_soundPlace_6 {p : Program} {l : Launch} {e : Env} {s : State} {m : MethodId} {args : Array Value} {below : List Frame} {meth : Method} {c : Code} {Q : State → Prop} {lo : Nat} {g : Gx} {h : Sh} (C0 : CallFix p m c cX4_soundPlace 7 s args wB RX4) (hlo : lo ≤ s.heap.size) (hK : KW g s) (hZ : ZW lo s s.heap) (v1 : Int32) (j2 : Nat) (j3 : Nat) (v4 : Int32) (hj2 : j2 < h.2.1) (hj3 : j3 < h.1) : ∀ (n : Nat) (v5 : Int32) (v6 : Int32) (σ : Sg) (z : (Int32 × Sg)) (hF : LX4_soundPlace_6 h.1 h.2.1 v1 j2 j3 v4 n v5 v6 σ = some z) (H : Heap) (locs : List Loc) (ls : Array Slot) (hW : FW g h (Ax lo) σ H) (hS : va_S (Ax lo) s.heap H locs) (hl : lv_has ls 7 [(0, .ref (h.2.2 0 0)), (1, .int v1), (2, .ref (h.2.2 6 j2)), (3, .ref (h.2.2 5 j3)), (4, .int v4), (5, .int v5), (6, .int v6)]) (kk : ∀ (H : Heap) (locs : List Loc) (ls : Array Slot), FW g h (Ax lo) z.2 H → va_S (Ax lo) s.heap H locs → lv_has ls 7 [(2, .ref (h.2.2 6 j2)), (5, .int z.1)] → W p l e { frames := 2, cells := 0, slots := 0, locals := 47 } s m args below meth c H locs 0 0 Q (F0 m 60 ls [])), W p l e { frames := 2, cells := 0, slots := 0, locals := 47 } s m args below meth c H locs 0 0 Q (F0 m 6 ls []) := by
  have hx := C0.1
  have hb := C0.2.1
  intro n
  induction n with
  | zero =>
    intro v5 v6 σ z hF
    rw [LX4_soundPlace_6] at hF
    cases hF
  | succ n ih =>
    intro v5 v6 σ z hF H locs ls hW hS hl kk
    rw [LX4_soundPlace_6] at hF
    refine lv_iload hx hb dX4_soundPlace_6 (lv_at hl 6 rfl) ?_
    refine lv_bipush (v := 6) hx hb dX4_soundPlace_8 (by decide) ?_
    refine lv_icmp_ge (tgt := 60) hx hb dX4_soundPlace_10 (by decide) (fun c1 => ?_) (fun c1 => ?_)
    · rw [if_pos c1] at hF
      cases hF
      exact kk _ _ _ hW hS (lv_sub hl [2, 5] rfl)
    · rw [if_neg c1] at hF
      refine lv_aload_n hx hb dX4_soundPlace_13 rfl (lv_at hl 2 rfl) ?_
      refine lv_iload hx hb dX4_soundPlace_14 (lv_at hl 4 rfl) ?_
      refine lv_iload hx hb dX4_soundPlace_16 (lv_at hl 6 rfl) ?_
      obtain ⟨z2, hz2, hF⟩ := bnd hF
      refine inI (runV C0 hlo hK hZ hW hS (kX0_hasPin l lo g h _ j2 v4 v6 hj2 _ _ hz2) wCO_X0_hasPin wML_X4_146 wIM_X0_hasPin wSE_X0_X0_hasPin wIN_X0 hdX0_hasPin ⟨Nat.le_of_ble_eq_true rfl, Nat.le_of_ble_eq_true rfl⟩ (recvK hK hW (al6 6 hj2 (by decide)) (ct6 j2) rfl) rfl hl.1 rfl (Nat.le_of_ble_eq_true rfl) dX4_soundPlace_18 ⟨Nat.le_of_ble_eq_true rfl, Nat.le_of_ble_eq_true rfl⟩) hS (fun H locs hW hS => ?_)
      refine lv_if_eq (tgt := 54) hx hb dX4_soundPlace_21 (by decide) (fun c3 => ?_) (fun c3 => ?_)
      · rw [if_pos c3] at hF
        refine lv_iinc (v := v6 + 1) (lv' := [(6, .int (v6 + 1)), (0, .ref (h.2.2 0 0)), (1, .int v1), (2, .ref (h.2.2 6 j2)), (3, .ref (h.2.2 5 j3)), (4, .int v4), (5, .int v5)]) hx hb dX4_soundPlace_54 hl (k := 6) rfl rfl (by decide) rfl (fun ls hl => ?_)
        refine lv_goto (tgt := 6) hx hb dX4_soundPlace_57 (by decide) ?_
        exact ih v5 (v6 + 1) z2.2 z hF _ _ _ hW hS (lv_sub hl [1, 2, 3, 4, 5, 6, 0] rfl) kk
      · rw [if_neg c3] at hF
        refine lv_aload_n hx hb dX4_soundPlace_24 rfl (lv_at hl 3 rfl) ?_
        obtain ⟨z4, hz4, hF⟩ := bnd hF
        refine inV (runV C0 hlo hK hZ hW hS (kX3_payForNote l lo g h _ j3 hj3 _ hz4) wCO_X3_payForNote wML_X4_338 wIM_X3_payForNote wSE_X3_X3_payForNote wIN_X3 hdX3_payForNote ⟨Nat.le_of_ble_eq_true rfl, Nat.le_of_ble_eq_true rfl⟩ (recvK hK hW (al5 hj3) (ct5 j3) rfl) rfl hl.1 rfl (Nat.le_of_ble_eq_true rfl) dX4_soundPlace_25 ⟨Nat.le_of_ble_eq_true rfl, Nat.le_of_ble_eq_true rfl⟩) hS (fun H locs hW hS => ?_)
        refine lv_aload_n hx hb dX4_soundPlace_28 rfl (lv_at hl 0 rfl) ?_
        refine get0 C0 hK hW 0 (al0 h 0 (by decide)) 2 (by decide) wFL_X4_24 rfl rfl dX4_soundPlace_29 ?_
        refine lv_aload_n hx hb dX4_soundPlace_32 rfl (lv_at hl 0 rfl) ?_
        refine get0 C0 hK hW 0 (al0 h 0 (by decide)) 6 (by decide) wFL_X4_234 rfl rfl dX4_soundPlace_33 ?_
        refine lv_iload_n hx hb dX4_soundPlace_36 rfl (lv_at hl 1 rfl) ?_
        refine lv_iload hx hb dX4_soundPlace_37 (lv_at hl 6 rfl) ?_
        refine lv_aload_n hx hb dX4_soundPlace_39 rfl (lv_at hl 2 rfl) ?_
        refine get6 C0 hK hW j2 (al6 6 hj2 (by decide)) 6 (by decide) wFL_X4_161 rfl rfl dX4_soundPlace_40 ?_
        refine lv_iload hx hb dX4_soundPlace_43 (lv_at hl 6 rfl) ?_
        obtain ⟨z5, hz5, hF⟩ := bnd hF
        refine inI (runS C0 hlo hK hZ hW hS (kX4_at l lo g h _ 8 j2 v6 (al6 8 hj2 (by decide)) (by decide) _ _ hz5) wCO_X4_at wML_X4_165 wST_X4_at wIN_X4 hdsX4_at ⟨Nat.le_of_ble_eq_true rfl, Nat.le_of_ble_eq_true rfl⟩ rfl hl.1 rfl (Nat.le_of_ble_eq_true rfl) dX4_soundPlace_45 ⟨Nat.le_of_ble_eq_true rfl, Nat.le_of_ble_eq_true rfl⟩) hS (fun H locs hW hS => ?_)
        obtain ⟨z6, hz6, hF⟩ := bnd hF
        refine inV (runV C0 hlo hK hZ hW hS (kX2_hear l lo g h _ (z4.1 0 0 6) v1 v6 z5.1  _ hz6) wCO_X2_hear wML_X4_341 wIM_X2_hear wSE_X2_X2_hear wIN_X2 hdX2_hear ⟨Nat.le_of_ble_eq_true rfl, Nat.le_of_ble_eq_true rfl⟩ (recvK hK hW (al0 h 3 (by decide)) (ct3 0) rfl) rfl hl.1 rfl (Nat.le_of_ble_eq_true rfl) dX4_soundPlace_48 ⟨Nat.le_of_ble_eq_true rfl, Nat.le_of_ble_eq_true rfl⟩) hS (fun H locs hW hS => ?_)
        refine lv_iinc (v := v5 + 1) (lv' := [(5, .int (v5 + 1)), (0, .ref (h.2.2 0 0)), (1, .int v1), (2, .ref (h.2.2 6 j2)), (3, .ref (h.2.2 5 j3)), (4, .int v4), (6, .int v6)]) hx hb dX4_soundPlace_51 hl (k := 5) rfl rfl (by decide) rfl (fun ls hl => ?_)
        refine lv_iinc (v := v6 + 1) (lv' := [(6, .int (v6 + 1)), (5, .int (v5 + 1)), (0, .ref (h.2.2 0 0)), (1, .int v1), (2, .ref (h.2.2 6 j2)), (3, .ref (h.2.2 5 j3)), (4, .int v4)]) hx hb dX4_soundPlace_54 hl (k := 6) rfl rfl (by decide) rfl (fun ls hl => ?_)
        refine lv_goto (tgt := 6) hx hb dX4_soundPlace_57 (by decide) ?_
        exact ih (v5 + 1) (v6 + 1) z6 z hF _ _ _ hW hS (lv_sub hl [2, 3, 4, 5, 6, 1, 0] rfl) kk
set_option maxHeartbeats 4000000 in
set_option maxRecDepth 100000 in
theorem kX4_soundPlace (l : Launch) (lo : Nat) (g : Gx) (h : Sh) (σ : Sg) (a1 : Int32) (i2 : Nat) (i3 : Nat) (a4 : Int32) (hi2 : i2 < h.2.1) (hi3 : i3 < h.1) (r : Int32) (σ1 : Sg) (hF : FX4_soundPlace h.1 h.2.1 σ a1 i2 i3 a4 = some (r, σ1)) : MI l yX4_soundPlace (ws_ yX4_soundPlace cX4_soundPlace 7 (some .int)) 2 47 0 0 lo g h [.ref (h.2.2 0 0), .int a1, .ref (h.2.2 6 i2), .ref (h.2.2 5 i3), .int a4] σ r σ1 := by
  refine ofB (own := RX4) (by decide +kernel) rfl (fun p e s m below meth c C0 hr hlk hlo hK hZ hW hS ls hl => ?_) (Nat.le_of_ble_eq_true rfl)
  have hx := C0.1
  have hb := C0.2.1
  have hl : lv_has ls 7 [(0, .ref (h.2.2 0 0)), (1, .int a1), (2, .ref (h.2.2 6 i2)), (3, .ref (h.2.2 5 i3)), (4, .int a4)] := hl
  unfold FX4_soundPlace at hF
  refine lv_iconst (v := 0) hx hb dX4_soundPlace_0 (by decide) ?_
  refine lv_istore (lv' := [(5, .int 0), (0, .ref (h.2.2 0 0)), (1, .int a1), (2, .ref (h.2.2 6 i2)), (3, .ref (h.2.2 5 i3)), (4, .int a4)]) hx hb dX4_soundPlace_1 hl (by decide) rfl (fun ls hl => ?_)
  refine lv_iconst (v := 0) hx hb dX4_soundPlace_3 (by decide) ?_
  refine lv_istore (lv' := [(6, .int 0), (5, .int 0), (0, .ref (h.2.2 0 0)), (1, .int a1), (2, .ref (h.2.2 6 i2)), (3, .ref (h.2.2 5 i3)), (4, .int a4)]) hx hb dX4_soundPlace_4 hl (by decide) rfl (fun ls hl => ?_)
  obtain ⟨z7, hz7, hF⟩ := bnd hF
  refine lX4_soundPlace_6 C0 hlo hK hZ a1 i2 i3 a4 hi2 hi3 _ 0 0 _ z7 hz7 _ _ _ hW hS (lv_sub hl [2, 3, 4, 5, 6, 1, 0] rfl) (fun H locs ls hW hS hl => ?_)
  refine lv_aload_n hx hb dX4_soundPlace_60 rfl (lv_at hl 0 rfl) ?_
  refine lv_dup hx hb dX4_soundPlace_61 rfl ?_
  refine get6 C0 hK hW i2 (al6 6 hi2 (by decide)) 12 (by decide) wFL_X4_219 rfl rfl dX4_soundPlace_62 ?_
  refine lv_iload hx hb dX4_soundPlace_65 (lv_at hl 1 rfl) ?_
  refine lv_iadd hx hb dX4_soundPlace_67 ?_
  refine put6_12 C0 hK hW hS i2 (al6 6 hi2 (by decide)) wFL_X4_219 dX4_soundPlace_68 (fun H locs hW hS => ?_)
  refine lv_iload hx hb dX4_soundPlace_71 (lv_at hl 1 rfl) ?_
  cases hF
  exact retI C0 hr hlk hW hS dX4_soundPlace_73
theorem hdX4_goBarrel : yX4_goBarrel.cls = RX4 ∧ yX4_goBarrel.cls ≠ "java/lang/invoke/MethodHandle" ∧ yX4_goBarrel.cls ≠ "java/lang/invoke/VarHandle" ∧ (parseMethodDescriptor yX4_goBarrel.desc).map (fun d => d.parameters.length) = some 3 := by decide +kernel
def LX4_goBarrel_38 (ns nb : Nat) (v1 : Int32) (j2 : Nat) (j3 : Nat) : Nat → Int32 → Int64 → Sg → Option (Int32 × Sg)
  | 0, _, _, _ => none
  | n + 1, v6, v7, σ => if (lg_cmp v7 0) ≤ 0 then (some (v6, σ)) else ((FX0_placeWhenGone ns nb σ j2 (((σ.2 6 j2 11) - v7) + 1)).bind fun z3 => (FX4_at ns nb z3.2 7 j2 z3.1).bind fun z4 => if z4.1 = 0 then (LX4_goBarrel_38 ns nb v1 j2 j3 n v6 (v7 - 1) z4.2) else ((FX4_soundPlace ns nb z4.2 v1 j2 j3 z3.1).bind fun z6 => LX4_goBarrel_38 ns nb v1 j2 j3 n (v6 + z6.1) (v7 - 1) z6.2))
def FX4_goBarrel (ns nb : Nat) (σ : Sg) (a1 : Int32) (i2 : Nat) (i3 : Nat) : Option (Int32 × Sg) :=
  (FX0_goneWhen ns nb σ i2 (σ.2 5 i3 2)).bind fun z1 => (LX4_goBarrel_38 ns nb a1 i2 i3 4100 0 (mnL (((sL z1.2 6 i2 11 z1.1).2 6 i2 11) - (σ.2 6 i2 11)) (((sL z1.2 6 i2 11 z1.1).1 6 i2 2).toInt64)) (sL z1.2 6 i2 11 z1.1)).bind fun z7 => some (z7.1, z7.2)
set_option maxHeartbeats 4000000 in
set_option maxRecDepth 100000 in
theorem lX4_goBarrel_38 {p : Program} {l : Launch} {e : Env} {s : State} {m : MethodId} {args : Array Value} {below : List Frame} {meth : Method} {c : Code} {Q : State → Prop} {lo : Nat} {g : Gx} {h : Sh} (C0 : CallFix p m c cX4_goBarrel 10 s args wB RX4) (hlo : lo ≤ s.heap.size) (hK : KW g s) (hZ : ZW lo s s.heap) (v1 : Int32) (j2 : Nat) (j3 : Nat) (hj2 : j2 < h.2.1) (hj3 : j3 < h.1) : ∀ (n : Nat) (v6 : Int32) (v7 : Int64) (σ : Sg) (z : (Int32 × Sg)) (hF : LX4_goBarrel_38 h.1 h.2.1 v1 j2 j3 n v6 v7 σ = some z) (H : Heap) (locs : List Loc) (ls : Array Slot) (hW : FW g h (Ax lo) σ H) (hS : va_S (Ax lo) s.heap H locs) (hl : lv_has ls 10 [(0, .ref (h.2.2 0 0)), (1, .int v1), (2, .ref (h.2.2 6 j2)), (3, .ref (h.2.2 5 j3)), (6, .int v6), (7, .long v7)]) (kk : ∀ (H : Heap) (locs : List Loc) (ls : Array Slot), FW g h (Ax lo) z.2 H → va_S (Ax lo) s.heap H locs → lv_has ls 10 [(6, .int z.1)] → W p l e { frames := 3, cells := 0, slots := 0, locals := 73 } s m args below meth c H locs 0 0 Q (F0 m 95 ls [])), W p l e { frames := 3, cells := 0, slots := 0, locals := 73 } s m args below meth c H locs 0 0 Q (F0 m 38 ls []) := by
  have hx := C0.1
  have hb := C0.2.1
  intro n
  induction n with
  | zero =>
    intro v6 v7 σ z hF
    rw [LX4_goBarrel_38] at hF
    cases hF
  | succ n ih =>
    intro v6 v7 σ z hF H locs ls hW hS hl kk
    rw [LX4_goBarrel_38] at hF
    refine lv_lload hx hb dX4_goBarrel_38 (lv_at hl 5 rfl) ?_
    refine lv_lconst (v := 0) hx hb dX4_goBarrel_40 (by decide) ?_
    refine W.lcmp hx hb dX4_goBarrel_41 ?_
    refine lv_if_le (tgt := 95) hx hb dX4_goBarrel_42 (by decide) (fun c2 => ?_) (fun c2 => ?_)
    · rw [if_pos c2] at hF
      cases hF
      exact kk _ _ _ hW hS (lv_sub hl [4] rfl)
    · rw [if_neg c2] at hF
      refine lv_aload_n hx hb dX4_goBarrel_45 rfl (lv_at hl 2 rfl) ?_
      refine lv_aload_n hx hb dX4_goBarrel_46 rfl (lv_at hl 2 rfl) ?_
      refine get6 C0 hK hW j2 (al6 6 hj2 (by decide)) 11 (by decide) wFL_X4_216 rfl rfl dX4_goBarrel_47 ?_
      refine lv_lload hx hb dX4_goBarrel_50 (lv_at hl 5 rfl) ?_
      refine lv_lsub hx hb dX4_goBarrel_52 ?_
      refine lv_lconst (v := 1) hx hb dX4_goBarrel_53 (by decide) ?_
      refine lv_ladd hx hb dX4_goBarrel_54 ?_
      obtain ⟨z3, hz3, hF⟩ := bnd hF
      refine inI (runV C0 hlo hK hZ hW hS (kX0_placeWhenGone l lo g h _ j2 (((σ.2 6 j2 11) - v7) + 1) hj2 _ _ hz3) wCO_X0_placeWhenGone wML_X4_328 wIM_X0_placeWhenGone wSE_X0_X0_placeWhenGone wIN_X0 hdX0_placeWhenGone ⟨Nat.le_of_ble_eq_true rfl, Nat.le_of_ble_eq_true rfl⟩ (recvK hK hW (al6 6 hj2 (by decide)) (ct6 j2) rfl) rfl hl.1 rfl (Nat.le_of_ble_eq_true rfl) dX4_goBarrel_55 ⟨Nat.le_of_ble_eq_true rfl, Nat.le_of_ble_eq_true rfl⟩) hS (fun H locs hW hS => ?_)
      refine lv_istore (lv' := [(9, .int z3.1), (0, .ref (h.2.2 0 0)), (1, .int v1), (2, .ref (h.2.2 6 j2)), (3, .ref (h.2.2 5 j3)), (6, .int v6), (7, .long v7)]) hx hb dX4_goBarrel_58 hl (by decide) rfl (fun ls hl => ?_)
      refine lv_aload_n hx hb dX4_goBarrel_60 rfl (lv_at hl 3 rfl) ?_
      refine get6 C0 hK hW j2 (al6 6 hj2 (by decide)) 5 (by decide) wFL_X4_331 rfl rfl dX4_goBarrel_61 ?_
      refine lv_iload hx hb dX4_goBarrel_64 (lv_at hl 0 rfl) ?_
      obtain ⟨z4, hz4, hF⟩ := bnd hF
      refine inI (runS C0 hlo hK hZ hW hS (kX4_at l lo g h _ 7 j2 z3.1 (al6 7 hj2 (by decide)) (by decide) _ _ hz4) wCO_X4_at wML_X4_165 wST_X4_at wIN_X4 hdsX4_at ⟨Nat.le_of_ble_eq_true rfl, Nat.le_of_ble_eq_true rfl⟩ rfl hl.1 rfl (Nat.le_of_ble_eq_true rfl) dX4_goBarrel_66 ⟨Nat.le_of_ble_eq_true rfl, Nat.le_of_ble_eq_true rfl⟩) hS (fun H locs hW hS => ?_)
      refine lv_if_eq (tgt := 86) hx hb dX4_goBarrel_69 (by decide) (fun c5 => ?_) (fun c5 => ?_)
      · rw [if_pos c5] at hF
        refine lv_lload hx hb dX4_goBarrel_86 (lv_at hl 6 rfl) ?_
        refine lv_lconst (v := 1) hx hb dX4_goBarrel_88 (by decide) ?_
        refine lv_lsub hx hb dX4_goBarrel_89 ?_
        refine lv_lstore (lv' := [(7, .long (v7 - 1)), (9, .int z3.1), (0, .ref (h.2.2 0 0)), (1, .int v1), (2, .ref (h.2.2 6 j2)), (3, .ref (h.2.2 5 j3)), (6, .int v6)]) hx hb dX4_goBarrel_90 hl (by decide) rfl (fun ls hl => ?_)
        refine lv_goto (tgt := 38) hx hb dX4_goBarrel_92 (by decide) ?_
        exact ih v6 (v7 - 1) z4.2 z hF _ _ _ hW hS (lv_sub hl [2, 3, 4, 5, 6, 0] rfl) kk
      · rw [if_neg c5] at hF
        refine lv_iload hx hb dX4_goBarrel_72 (lv_at hl 5 rfl) ?_
        refine lv_aload_n hx hb dX4_goBarrel_74 rfl (lv_at hl 1 rfl) ?_
        refine lv_iload_n hx hb dX4_goBarrel_75 rfl (lv_at hl 2 rfl) ?_
        refine lv_aload_n hx hb dX4_goBarrel_76 rfl (lv_at hl 3 rfl) ?_
        refine lv_aload_n hx hb dX4_goBarrel_77 rfl (lv_at hl 4 rfl) ?_
        refine lv_iload hx hb dX4_goBarrel_78 (lv_at hl 0 rfl) ?_
        obtain ⟨z6, hz6, hF⟩ := bnd hF
        refine inI (runV C0 hlo hK hZ hW hS (kX4_soundPlace l lo g h _ v1 j2 j3 z3.1 hj2 hj3 _ _ hz6) wCO_X4_soundPlace wML_X4_334 wIM_X4_soundPlace wSE_X4_X4_soundPlace wIN_X4 hdX4_soundPlace ⟨Nat.le_of_ble_eq_true rfl, Nat.le_of_ble_eq_true rfl⟩ (recvK hK hW (al0 h 0 (by decide)) (ct0 0) rfl) rfl hl.1 rfl (Nat.le_of_ble_eq_true rfl) dX4_goBarrel_80 ⟨Nat.le_of_ble_eq_true rfl, Nat.le_of_ble_eq_true rfl⟩) hS (fun H locs hW hS => ?_)
        refine lv_iadd hx hb dX4_goBarrel_83 ?_
        refine lv_istore (lv' := [(6, .int (v6 + z6.1)), (9, .int z3.1), (0, .ref (h.2.2 0 0)), (1, .int v1), (2, .ref (h.2.2 6 j2)), (3, .ref (h.2.2 5 j3)), (7, .long v7)]) hx hb dX4_goBarrel_84 hl (by decide) rfl (fun ls hl => ?_)
        refine lv_lload hx hb dX4_goBarrel_86 (lv_at hl 6 rfl) ?_
        refine lv_lconst (v := 1) hx hb dX4_goBarrel_88 (by decide) ?_
        refine lv_lsub hx hb dX4_goBarrel_89 ?_
        refine lv_lstore (lv' := [(7, .long (v7 - 1)), (6, .int (v6 + z6.1)), (9, .int z3.1), (0, .ref (h.2.2 0 0)), (1, .int v1), (2, .ref (h.2.2 6 j2)), (3, .ref (h.2.2 5 j3))]) hx hb dX4_goBarrel_90 hl (by decide) rfl (fun ls hl => ?_)
        refine lv_goto (tgt := 38) hx hb dX4_goBarrel_92 (by decide) ?_
        exact ih (v6 + z6.1) (v7 - 1) z6.2 z hF _ _ _ hW hS (lv_sub hl [3, 4, 5, 6, 1, 0] rfl) kk
set_option maxHeartbeats 4000000 in
set_option maxRecDepth 100000 in
theorem kX4_goBarrel (l : Launch) (lo : Nat) (g : Gx) (h : Sh) (σ : Sg) (a1 : Int32) (i2 : Nat) (i3 : Nat) (hi2 : i2 < h.2.1) (hi3 : i3 < h.1) (r : Int32) (σ1 : Sg) (hF : FX4_goBarrel h.1 h.2.1 σ a1 i2 i3 = some (r, σ1)) : MI l yX4_goBarrel (ws_ yX4_goBarrel cX4_goBarrel 10 (some .int)) 3 73 0 0 lo g h [.ref (h.2.2 0 0), .int a1, .ref (h.2.2 6 i2), .ref (h.2.2 5 i3)] σ r σ1 := by
  refine ofB (own := RX4) (by decide +kernel) rfl (fun p e s m below meth c C0 hr hlk hlo hK hZ hW hS ls hl => ?_) (Nat.le_of_ble_eq_true rfl)
  have hx := C0.1
  have hb := C0.2.1
  have hl : lv_has ls 10 [(0, .ref (h.2.2 0 0)), (1, .int a1), (2, .ref (h.2.2 6 i2)), (3, .ref (h.2.2 5 i3))] := hl
  unfold FX4_goBarrel at hF
  refine lv_aload_n hx hb dX4_goBarrel_0 rfl (lv_at hl 2 rfl) ?_
  refine get6 C0 hK hW i2 (al6 6 hi2 (by decide)) 11 (by decide) wFL_X4_216 rfl rfl dX4_goBarrel_1 ?_
  refine lv_lstore (lv' := [(4, .long (σ.2 6 i2 11)), (0, .ref (h.2.2 0 0)), (1, .int a1), (2, .ref (h.2.2 6 i2)), (3, .ref (h.2.2 5 i3))]) hx hb dX4_goBarrel_4 hl (by decide) rfl (fun ls hl => ?_)
  refine lv_aload_n hx hb dX4_goBarrel_6 rfl (lv_at hl 3 rfl) ?_
  refine lv_aload_n hx hb dX4_goBarrel_7 rfl (lv_at hl 3 rfl) ?_
  refine lv_aload_n hx hb dX4_goBarrel_8 rfl (lv_at hl 4 rfl) ?_
  refine get5 C0 hK hW i3 (al5 hi3) 2 (by decide) wFL_X4_93 rfl rfl dX4_goBarrel_9 ?_
  obtain ⟨z1, hz1, hF⟩ := bnd hF
  refine inL (runV C0 hlo hK hZ hW hS (kX0_goneWhen l lo g h _ i2 (σ.2 5 i3 2) hi2 _ _ hz1) wCO_X0_goneWhen wML_X4_321 wIM_X0_goneWhen wSE_X0_X0_goneWhen wIN_X0 hdX0_goneWhen ⟨Nat.le_of_ble_eq_true rfl, Nat.le_of_ble_eq_true rfl⟩ (recvK hK hW (al6 6 hi2 (by decide)) (ct6 i2) rfl) rfl hl.1 rfl (Nat.le_of_ble_eq_true rfl) dX4_goBarrel_12 ⟨Nat.le_of_ble_eq_true rfl, Nat.le_of_ble_eq_true rfl⟩) hS (fun H locs hW hS => ?_)
  refine put6_11 C0 hK hW hS i2 (al6 6 hi2 (by decide)) wFL_X4_216 dX4_goBarrel_15 (fun H locs hW hS => ?_)
  refine lv_iconst (v := 0) hx hb dX4_goBarrel_18 (by decide) ?_
  refine lv_istore (lv' := [(6, .int 0), (4, .long (σ.2 6 i2 11)), (0, .ref (h.2.2 0 0)), (1, .int a1), (2, .ref (h.2.2 6 i2)), (3, .ref (h.2.2 5 i3))]) hx hb dX4_goBarrel_19 hl (by decide) rfl (fun ls hl => ?_)
  refine lv_aload_n hx hb dX4_goBarrel_21 rfl (lv_at hl 4 rfl) ?_
  refine get6 C0 hK hW i2 (al6 6 hi2 (by decide)) 11 (by decide) wFL_X4_216 rfl rfl dX4_goBarrel_22 ?_
  refine lv_lload hx hb dX4_goBarrel_25 (lv_at hl 1 rfl) ?_
  refine lv_lsub hx hb dX4_goBarrel_27 ?_
  refine lv_aload_n hx hb dX4_goBarrel_28 rfl (lv_at hl 4 rfl) ?_
  refine get6 C0 hK hW i2 (al6 6 hi2 (by decide)) 2 (by decide) wFL_X4_193 rfl rfl dX4_goBarrel_29 ?_
  refine lv_i2l hx hb dX4_goBarrel_32 rfl ?_
  refine r_minl C0 hl.1 wML_X4_325 (Nat.le_of_ble_eq_true rfl) (Nat.le_of_ble_eq_true rfl) (Nat.le_of_ble_eq_true rfl) (Nat.le_of_ble_eq_true rfl) dX4_goBarrel_33 ?_
  refine lv_lstore (lv' := [(7, .long (mnL (((sL z1.2 6 i2 11 z1.1).2 6 i2 11) - (σ.2 6 i2 11)) (((sL z1.2 6 i2 11 z1.1).1 6 i2 2).toInt64))), (6, .int 0), (4, .long (σ.2 6 i2 11)), (0, .ref (h.2.2 0 0)), (1, .int a1), (2, .ref (h.2.2 6 i2)), (3, .ref (h.2.2 5 i3))]) hx hb dX4_goBarrel_36 hl (by decide) rfl (fun ls hl => ?_)
  obtain ⟨z7, hz7, hF⟩ := bnd hF
  refine lX4_goBarrel_38 C0 hlo hK hZ a1 i2 i3 hi2 hi3 _ 0 (mnL (((sL z1.2 6 i2 11 z1.1).2 6 i2 11) - (σ.2 6 i2 11)) (((sL z1.2 6 i2 11 z1.1).1 6 i2 2).toInt64)) _ z7 hz7 _ _ _ hW hS (lv_sub hl [3, 4, 5, 6, 1, 0] rfl) (fun H locs ls hW hS hl => ?_)
  refine lv_iload hx hb dX4_goBarrel_95 (lv_at hl 0 rfl) ?_
  cases hF
  exact retI C0 hr hlk hW hS dX4_goBarrel_97
theorem hdX4_goShaft : yX4_goShaft.cls = RX4 ∧ yX4_goShaft.cls ≠ "java/lang/invoke/MethodHandle" ∧ yX4_goShaft.cls ≠ "java/lang/invoke/VarHandle" ∧ (parseMethodDescriptor yX4_goShaft.desc).map (fun d => d.parameters.length) = some 2 := by decide +kernel
def LX4_goShaft_39 (ns nb : Nat) (v1 : Int32) (j2 : Nat) : Nat → Int32 → Int32 → Sg → Option (Int32 × Sg)
  | 0, _, _, _ => none
  | n + 1, v3, v4, σ => if 8 ≤ v4 then (some (v3, σ)) else (if (v4 < 0 ∨ 8 ≤ v4.toNatClampNeg) then none else (oc (iO nb v4.toNatClampNeg) (LX4_goShaft_39 ns nb v1 j2 n v3 (v4 + 1) σ) (fun i7_ => if i7_ < nb then ((FX0_isDrivenBy ns nb σ i7_ v1).bind fun z8 => if z8.1 = 0 then (LX4_goShaft_39 ns nb v1 j2 n v3 (v4 + 1) z8.2) else ((FX4_goBarrel ns nb z8.2 v4 i7_ j2).bind fun z10 => LX4_goShaft_39 ns nb v1 j2 n (v3 + z10.1) (v4 + 1) z10.2)) else none)))
def FX4_goShaft (ns nb : Nat) (σ : Sg) (a1 : Int32) (i2 : Nat) : Option (Int32 × Sg) :=
  if (σ.1 5 i2 4) = 0 then (if 0 < (σ.1 5 i2 1) then ((FX4_loadOn ns nb σ a1).bind fun z3 => (FX3_speedUnder ns nb z3.2 i2 z3.1).bind fun z4 => (FX3_turn ns nb z4.2 i2 z4.1).bind fun z5 => (LX4_goShaft_39 ns nb a1 i2 4100 0 0 z5).bind fun z11 => some (z11.1, z11.2)) else (some (0, (sI σ 5 i2 3 0)))) else (some (0, (sI σ 5 i2 3 0)))
set_option maxHeartbeats 4000000 in
set_option maxRecDepth 100000 in
theorem lX4_goShaft_39 {p : Program} {l : Launch} {e : Env} {s : State} {m : MethodId} {args : Array Value} {below : List Frame} {meth : Method} {c : Code} {Q : State → Prop} {lo : Nat} {g : Gx} {h : Sh} (C0 : CallFix p m c cX4_goShaft 6 s args wB RX4) (hlo : lo ≤ s.heap.size) (hK : KW g s) (hZ : ZW lo s s.heap) (v1 : Int32) (j2 : Nat) (hj2 : j2 < h.1) : ∀ (n : Nat) (v3 : Int32) (v4 : Int32) (σ : Sg) (z : (Int32 × Sg)) (hF : LX4_goShaft_39 h.1 h.2.1 v1 j2 n v3 v4 σ = some z) (H : Heap) (locs : List Loc) (ls : Array Slot) (hW : FW g h (Ax lo) σ H) (hS : va_S (Ax lo) s.heap H locs) (hl : lv_has ls 6 [(0, .ref (h.2.2 0 0)), (1, .int v1), (2, .ref (h.2.2 5 j2)), (3, .int v3), (4, .int v4)]) (kk : ∀ (H : Heap) (locs : List Loc) (ls : Array Slot), FW g h (Ax lo) z.2 H → va_S (Ax lo) s.heap H locs → lv_has ls 6 [(3, .int z.1)] → W p l e { frames := 4, cells := 0, slots := 0, locals := 102 } s m args below meth c H locs 0 0 Q (F0 m 90 ls [])), W p l e { frames := 4, cells := 0, slots := 0, locals := 102 } s m args below meth c H locs 0 0 Q (F0 m 39 ls []) := by
  have hx := C0.1
  have hb := C0.2.1
  intro n
  induction n with
  | zero =>
    intro v3 v4 σ z hF
    rw [LX4_goShaft_39] at hF
    cases hF
  | succ n ih =>
    intro v3 v4 σ z hF H locs ls hW hS hl kk
    rw [LX4_goShaft_39] at hF
    refine lv_iload hx hb dX4_goShaft_39 (lv_at hl 4 rfl) ?_
    refine lv_aload_n hx hb dX4_goShaft_41 rfl (lv_at hl 0 rfl) ?_
    refine get0 C0 hK hW 0 (al0 h 0 (by decide)) 1 (by decide) wFL_X4_17 rfl rfl dX4_goShaft_42 ?_
    refine len2 C0 hK hW dX4_goShaft_45 ?_
    refine lv_icmp_ge (tgt := 90) hx hb dX4_goShaft_46 (by decide) (fun c6 => ?_) (fun c6 => ?_)
    · rw [if_pos c6] at hF
      cases hF
      exact kk _ _ _ hW hS (lv_sub hl [3] rfl)
    · rw [if_neg c6] at hF
      refine lv_aload_n hx hb dX4_goShaft_49 rfl (lv_at hl 0 rfl) ?_
      refine get0 C0 hK hW 0 (al0 h 0 (by decide)) 1 (by decide) wFL_X4_17 rfl rfl dX4_goShaft_50 ?_
      refine lv_iload hx hb dX4_goShaft_53 (lv_at hl 4 rfl) ?_
      obtain ⟨hg, hF⟩ := grd hF
      refine ld2 C0 hK hW hg dX4_goShaft_55 ?_
      refine nspl (fun n7 => ?_) (fun i7_ n7 => ?_)
      · rw [n7, oc_n] at hF
        refine lv_astoreN (lv' := [(5, .null), (0, .ref (h.2.2 0 0)), (1, .int v1), (2, .ref (h.2.2 5 j2)), (3, .int v3), (4, .int v4)]) hx hb dX4_goShaft_56 hl (by decide) rfl (fun ls hl => ?_)
        refine lv_aloadN hx hb dX4_goShaft_58 (lv_at hl 0 rfl) ?_
        refine lv_ifnullN (tgt := 84) hx hb dX4_goShaft_60 (by decide) ?_
        refine lv_iinc (v := v4 + 1) (lv' := [(4, .int (v4 + 1)), (5, .null), (0, .ref (h.2.2 0 0)), (1, .int v1), (2, .ref (h.2.2 5 j2)), (3, .int v3)]) hx hb dX4_goShaft_84 hl (k := 5) rfl rfl (by decide) rfl (fun ls hl => ?_)
        refine lv_goto (tgt := 39) hx hb dX4_goShaft_87 (by decide) ?_
        exact ih v3 (v4 + 1) σ z hF _ _ _ hW hS (lv_sub hl [2, 3, 4, 5, 0] rfl) kk
      · rw [n7, oc_s] at hF
        obtain ⟨hi7_, hF⟩ := grp hF
        refine lv_astore (lv' := [(5, .ref (h.2.2 6 i7_)), (0, .ref (h.2.2 0 0)), (1, .int v1), (2, .ref (h.2.2 5 j2)), (3, .int v3), (4, .int v4)]) hx hb dX4_goShaft_56 hl (by decide) rfl (fun ls hl => ?_)
        refine lv_aload hx hb dX4_goShaft_58 (lv_at hl 0 rfl) ?_
        refine lv_ifnull hx hb dX4_goShaft_60 ?_
        refine lv_aload hx hb dX4_goShaft_63 (lv_at hl 0 rfl) ?_
        refine lv_iload_n hx hb dX4_goShaft_65 rfl (lv_at hl 2 rfl) ?_
        obtain ⟨z8, hz8, hF⟩ := bnd hF
        refine inI (runV C0 hlo hK hZ hW hS (kX0_isDrivenBy l lo g h _ i7_ v1 hi7_ _ _ hz8) wCO_X0_isDrivenBy wML_X4_314 wIM_X0_isDrivenBy wSE_X0_X0_isDrivenBy wIN_X0 hdX0_isDrivenBy ⟨Nat.le_of_ble_eq_true rfl, Nat.le_of_ble_eq_true rfl⟩ (recvK hK hW (al6 6 hi7_ (by decide)) (ct6 i7_) rfl) rfl hl.1 rfl (Nat.le_of_ble_eq_true rfl) dX4_goShaft_66 ⟨Nat.le_of_ble_eq_true rfl, Nat.le_of_ble_eq_true rfl⟩) hS (fun H locs hW hS => ?_)
        refine lv_if_eq (tgt := 84) hx hb dX4_goShaft_69 (by decide) (fun c9 => ?_) (fun c9 => ?_)
        · rw [if_pos c9] at hF
          refine lv_iinc (v := v4 + 1) (lv' := [(4, .int (v4 + 1)), (5, .ref (h.2.2 6 i7_)), (0, .ref (h.2.2 0 0)), (1, .int v1), (2, .ref (h.2.2 5 j2)), (3, .int v3)]) hx hb dX4_goShaft_84 hl (k := 5) rfl rfl (by decide) rfl (fun ls hl => ?_)
          refine lv_goto (tgt := 39) hx hb dX4_goShaft_87 (by decide) ?_
          exact ih v3 (v4 + 1) z8.2 z hF _ _ _ hW hS (lv_sub hl [2, 3, 4, 5, 0] rfl) kk
        · rw [if_neg c9] at hF
          refine lv_iload_n hx hb dX4_goShaft_72 rfl (lv_at hl 4 rfl) ?_
          refine lv_aload_n hx hb dX4_goShaft_73 rfl (lv_at hl 1 rfl) ?_
          refine lv_iload hx hb dX4_goShaft_74 (lv_at hl 5 rfl) ?_
          refine lv_aload hx hb dX4_goShaft_76 (lv_at hl 0 rfl) ?_
          refine lv_aload_n hx hb dX4_goShaft_78 rfl (lv_at hl 3 rfl) ?_
          obtain ⟨z10, hz10, hF⟩ := bnd hF
          refine inI (runV C0 hlo hK hZ hW hS (kX4_goBarrel l lo g h _ v4 i7_ j2 hi7_ hj2 _ _ hz10) wCO_X4_goBarrel wML_X4_317 wIM_X4_goBarrel wSE_X4_X4_goBarrel wIN_X4 hdX4_goBarrel ⟨Nat.le_of_ble_eq_true rfl, Nat.le_of_ble_eq_true rfl⟩ (recvK hK hW (al0 h 0 (by decide)) (ct0 0) rfl) rfl hl.1 rfl (Nat.le_of_ble_eq_true rfl) dX4_goShaft_79 ⟨Nat.le_of_ble_eq_true rfl, Nat.le_of_ble_eq_true rfl⟩) hS (fun H locs hW hS => ?_)
          refine lv_iadd hx hb dX4_goShaft_82 ?_
          refine lv_istore_n (lv' := [(3, .int (v3 + z10.1)), (5, .ref (h.2.2 6 i7_)), (0, .ref (h.2.2 0 0)), (1, .int v1), (2, .ref (h.2.2 5 j2)), (4, .int v4)]) hx hb dX4_goShaft_83 rfl hl (by decide) rfl (fun ls hl => ?_)
          refine lv_iinc (v := v4 + 1) (lv' := [(4, .int (v4 + 1)), (3, .int (v3 + z10.1)), (5, .ref (h.2.2 6 i7_)), (0, .ref (h.2.2 0 0)), (1, .int v1), (2, .ref (h.2.2 5 j2))]) hx hb dX4_goShaft_84 hl (k := 5) rfl rfl (by decide) rfl (fun ls hl => ?_)
          refine lv_goto (tgt := 39) hx hb dX4_goShaft_87 (by decide) ?_
          exact ih (v3 + z10.1) (v4 + 1) z10.2 z hF _ _ _ hW hS (lv_sub hl [3, 4, 5, 1, 0] rfl) kk
set_option maxHeartbeats 4000000 in
set_option maxRecDepth 100000 in
theorem kX4_goShaft (l : Launch) (lo : Nat) (g : Gx) (h : Sh) (σ : Sg) (a1 : Int32) (i2 : Nat) (hi2 : i2 < h.1) (r : Int32) (σ1 : Sg) (hF : FX4_goShaft h.1 h.2.1 σ a1 i2 = some (r, σ1)) : MI l yX4_goShaft (ws_ yX4_goShaft cX4_goShaft 6 (some .int)) 4 102 0 0 lo g h [.ref (h.2.2 0 0), .int a1, .ref (h.2.2 5 i2)] σ r σ1 := by
  refine ofB (own := RX4) (by decide +kernel) rfl (fun p e s m below meth c C0 hr hlk hlo hK hZ hW hS ls hl => ?_) (Nat.le_of_ble_eq_true rfl)
  have hx := C0.1
  have hb := C0.2.1
  have hl : lv_has ls 6 [(0, .ref (h.2.2 0 0)), (1, .int a1), (2, .ref (h.2.2 5 i2))] := hl
  unfold FX4_goShaft at hF
  refine lv_aload_n hx hb dX4_goShaft_0 rfl (lv_at hl 2 rfl) ?_
  refine get5 C0 hK hW i2 (al5 hi2) 4 (by decide) wFL_X4_72 rfl rfl dX4_goShaft_1 ?_
  refine lv_if_ne (tgt := 14) hx hb dX4_goShaft_4 (by decide) (fun c1 => ?_) (fun c1 => ?_)
  · rw [if_neg c1] at hF
    refine lv_aload_n hx hb dX4_goShaft_14 rfl (lv_at hl 2 rfl) ?_
    refine lv_iconst (v := 0) hx hb dX4_goShaft_15 (by decide) ?_
    refine put5_3 C0 hK hW hS i2 (al5 hi2) wFL_X4_97 dX4_goShaft_16 (fun H locs hW hS => ?_)
    refine lv_iconst (v := 0) hx hb dX4_goShaft_19 (by decide) ?_
    cases hF
    exact retI C0 hr hlk hW hS dX4_goShaft_20
  · rw [if_pos c1] at hF
    refine lv_aload_n hx hb dX4_goShaft_7 rfl (lv_at hl 2 rfl) ?_
    refine get5 C0 hK hW i2 (al5 hi2) 1 (by decide) wFL_X4_63 rfl rfl dX4_goShaft_8 ?_
    refine lv_if_gt (tgt := 21) hx hb dX4_goShaft_11 (by decide) (fun c2 => ?_) (fun c2 => ?_)
    · rw [if_pos c2] at hF
      refine lv_aload_n hx hb dX4_goShaft_21 rfl (lv_at hl 2 rfl) ?_
      refine lv_aload_n hx hb dX4_goShaft_22 rfl (lv_at hl 2 rfl) ?_
      refine lv_aload_n hx hb dX4_goShaft_23 rfl (lv_at hl 0 rfl) ?_
      refine lv_iload_n hx hb dX4_goShaft_24 rfl (lv_at hl 1 rfl) ?_
      obtain ⟨z3, hz3, hF⟩ := bnd hF
      refine inI (runV C0 hlo hK hZ hW hS (kX4_loadOn l lo g h _ a1  _ _ hz3) wCO_X4_loadOn wML_X4_103 wIM_X4_loadOn wSE_X4_X4_loadOn wIN_X4 hdX4_loadOn ⟨Nat.le_of_ble_eq_true rfl, Nat.le_of_ble_eq_true rfl⟩ (recvK hK hW (al0 h 0 (by decide)) (ct0 0) rfl) rfl hl.1 rfl (Nat.le_of_ble_eq_true rfl) dX4_goShaft_25 ⟨Nat.le_of_ble_eq_true rfl, Nat.le_of_ble_eq_true rfl⟩) hS (fun H locs hW hS => ?_)
      obtain ⟨z4, hz4, hF⟩ := bnd hF
      refine inI (runV C0 hlo hK hZ hW hS (kX3_speedUnder l lo g h _ i2 z3.1 hi2 _ _ hz4) wCO_X3_speedUnder wML_X4_308 wIM_X3_speedUnder wSE_X3_X3_speedUnder wIN_X3 hdX3_speedUnder ⟨Nat.le_of_ble_eq_true rfl, Nat.le_of_ble_eq_true rfl⟩ (recvK hK hW (al5 hi2) (ct5 i2) rfl) rfl hl.1 rfl (Nat.le_of_ble_eq_true rfl) dX4_goShaft_28 ⟨Nat.le_of_ble_eq_true rfl, Nat.le_of_ble_eq_true rfl⟩) hS (fun H locs hW hS => ?_)
      obtain ⟨z5, hz5, hF⟩ := bnd hF
      refine inV (runV C0 hlo hK hZ hW hS (kX3_turn l lo g h _ i2 z4.1 hi2 _ hz5) wCO_X3_turn wML_X4_311 wIM_X3_turn wSE_X3_X3_turn wIN_X3 hdX3_turn ⟨Nat.le_of_ble_eq_true rfl, Nat.le_of_ble_eq_true rfl⟩ (recvK hK hW (al5 hi2) (ct5 i2) rfl) rfl hl.1 rfl (Nat.le_of_ble_eq_true rfl) dX4_goShaft_31 ⟨Nat.le_of_ble_eq_true rfl, Nat.le_of_ble_eq_true rfl⟩) hS (fun H locs hW hS => ?_)
      refine lv_iconst (v := 0) hx hb dX4_goShaft_34 (by decide) ?_
      refine lv_istore_n (lv' := [(3, .int 0), (0, .ref (h.2.2 0 0)), (1, .int a1), (2, .ref (h.2.2 5 i2))]) hx hb dX4_goShaft_35 rfl hl (by decide) rfl (fun ls hl => ?_)
      refine lv_iconst (v := 0) hx hb dX4_goShaft_36 (by decide) ?_
      refine lv_istore (lv' := [(4, .int 0), (3, .int 0), (0, .ref (h.2.2 0 0)), (1, .int a1), (2, .ref (h.2.2 5 i2))]) hx hb dX4_goShaft_37 hl (by decide) rfl (fun ls hl => ?_)
      obtain ⟨z11, hz11, hF⟩ := bnd hF
      refine lX4_goShaft_39 C0 hlo hK hZ a1 i2 hi2 _ 0 0 _ z11 hz11 _ _ _ hW hS (lv_sub hl [2, 3, 4, 1, 0] rfl) (fun H locs ls hW hS hl => ?_)
      refine lv_iload_n hx hb dX4_goShaft_90 rfl (lv_at hl 0 rfl) ?_
      cases hF
      exact retI C0 hr hlk hW hS dX4_goShaft_91
    · rw [if_neg c2] at hF
      refine lv_aload_n hx hb dX4_goShaft_14 rfl (lv_at hl 2 rfl) ?_
      refine lv_iconst (v := 0) hx hb dX4_goShaft_15 (by decide) ?_
      refine put5_3 C0 hK hW hS i2 (al5 hi2) wFL_X4_97 dX4_goShaft_16 (fun H locs hW hS => ?_)
      refine lv_iconst (v := 0) hx hb dX4_goShaft_19 (by decide) ?_
      cases hF
      exact retI C0 hr hlk hW hS dX4_goShaft_20
theorem hdX4_goOneTick : yX4_goOneTick.cls = RX4 ∧ yX4_goOneTick.cls ≠ "java/lang/invoke/MethodHandle" ∧ yX4_goOneTick.cls ≠ "java/lang/invoke/VarHandle" ∧ (parseMethodDescriptor yX4_goOneTick.desc).map (fun d => d.parameters.length) = some 0 := by decide +kernel
def LX4_goOneTick_18 (ns nb : Nat) : Nat → Int32 → Int32 → Sg → Option (Int32 × Sg)
  | 0, _, _, _ => none
  | n + 1, v1, v2, σ => if 4 ≤ v2 then (some (v1, σ)) else (if (v2 < 0 ∨ 4 ≤ v2.toNatClampNeg) then none else (oc (iO ns v2.toNatClampNeg) (LX4_goOneTick_18 ns nb  n v1 (v2 + 1) σ) (fun i3_ => if i3_ < ns then ((FX4_goShaft ns nb σ v2 i3_).bind fun z4 => LX4_goOneTick_18 ns nb  n (v1 + z4.1) (v2 + 1) z4.2) else none)))
def FX4_goOneTick (ns nb : Nat) (σ : Sg)  : Option (Int32 × Sg) :=
  (FX4_shareBetweenCoupled ns nb (sI σ 0 0 6 ((σ.1 0 0 6) + 1)) ).bind fun z1 => (LX4_goOneTick_18 ns nb  4100 0 0 z1).bind fun z5 => some (z5.1, z5.2)
set_option maxHeartbeats 4000000 in
set_option maxRecDepth 100000 in
theorem lX4_goOneTick_18 {p : Program} {l : Launch} {e : Env} {s : State} {m : MethodId} {args : Array Value} {below : List Frame} {meth : Method} {c : Code} {Q : State → Prop} {lo : Nat} {g : Gx} {h : Sh} (C0 : CallFix p m c cX4_goOneTick 4 s args wB RX4) (hlo : lo ≤ s.heap.size) (hK : KW g s) (hZ : ZW lo s s.heap)   : ∀ (n : Nat) (v1 : Int32) (v2 : Int32) (σ : Sg) (z : (Int32 × Sg)) (hF : LX4_goOneTick_18 h.1 h.2.1  n v1 v2 σ = some z) (H : Heap) (locs : List Loc) (ls : Array Slot) (hW : FW g h (Ax lo) σ H) (hS : va_S (Ax lo) s.heap H locs) (hl : lv_has ls 4 [(0, .ref (h.2.2 0 0)), (1, .int v1), (2, .int v2)]) (kk : ∀ (H : Heap) (locs : List Loc) (ls : Array Slot), FW g h (Ax lo) z.2 H → va_S (Ax lo) s.heap H locs → lv_has ls 4 [(1, .int z.1)] → W p l e { frames := 5, cells := 0, slots := 0, locals := 127 } s m args below meth c H locs 0 0 Q (F0 m 53 ls [])), W p l e { frames := 5, cells := 0, slots := 0, locals := 127 } s m args below meth c H locs 0 0 Q (F0 m 18 ls []) := by
  have hx := C0.1
  have hb := C0.2.1
  intro n
  induction n with
  | zero =>
    intro v1 v2 σ z hF
    rw [LX4_goOneTick_18] at hF
    cases hF
  | succ n ih =>
    intro v1 v2 σ z hF H locs ls hW hS hl kk
    rw [LX4_goOneTick_18] at hF
    refine lv_iload_n hx hb dX4_goOneTick_18 rfl (lv_at hl 2 rfl) ?_
    refine lv_aload_n hx hb dX4_goOneTick_19 rfl (lv_at hl 0 rfl) ?_
    refine get0 C0 hK hW 0 (al0 h 0 (by decide)) 0 (by decide) wFL_X4_11 rfl rfl dX4_goOneTick_20 ?_
    refine len1 C0 hK hW dX4_goOneTick_23 ?_
    refine lv_icmp_ge (tgt := 53) hx hb dX4_goOneTick_24 (by decide) (fun c2 => ?_) (fun c2 => ?_)
    · rw [if_pos c2] at hF
      cases hF
      exact kk _ _ _ hW hS (lv_sub hl [1] rfl)
    · rw [if_neg c2] at hF
      refine lv_aload_n hx hb dX4_goOneTick_27 rfl (lv_at hl 0 rfl) ?_
      refine get0 C0 hK hW 0 (al0 h 0 (by decide)) 0 (by decide) wFL_X4_11 rfl rfl dX4_goOneTick_28 ?_
      refine lv_iload_n hx hb dX4_goOneTick_31 rfl (lv_at hl 2 rfl) ?_
      obtain ⟨hg, hF⟩ := grd hF
      refine ld1 C0 hK hW hg dX4_goOneTick_32 ?_
      refine nspl (fun n3 => ?_) (fun i3_ n3 => ?_)
      · rw [n3, oc_n] at hF
        refine lv_astore_nN (lv' := [(3, .null), (0, .ref (h.2.2 0 0)), (1, .int v1), (2, .int v2)]) hx hb dX4_goOneTick_33 rfl hl (by decide) rfl (fun ls hl => ?_)
        refine lv_aload_nN hx hb dX4_goOneTick_34 rfl (lv_at hl 0 rfl) ?_
        refine lv_ifnullN (tgt := 47) hx hb dX4_goOneTick_35 (by decide) ?_
        refine lv_iinc (v := v2 + 1) (lv' := [(2, .int (v2 + 1)), (3, .null), (0, .ref (h.2.2 0 0)), (1, .int v1)]) hx hb dX4_goOneTick_47 hl (k := 3) rfl rfl (by decide) rfl (fun ls hl => ?_)
        refine lv_goto (tgt := 18) hx hb dX4_goOneTick_50 (by decide) ?_
        exact ih v1 (v2 + 1) σ z hF _ _ _ hW hS (lv_sub hl [2, 3, 0] rfl) kk
      · rw [n3, oc_s] at hF
        obtain ⟨hi3_, hF⟩ := grp hF
        refine lv_astore_n (lv' := [(3, .ref (h.2.2 5 i3_)), (0, .ref (h.2.2 0 0)), (1, .int v1), (2, .int v2)]) hx hb dX4_goOneTick_33 rfl hl (by decide) rfl (fun ls hl => ?_)
        refine lv_aload_n hx hb dX4_goOneTick_34 rfl (lv_at hl 0 rfl) ?_
        refine lv_ifnull hx hb dX4_goOneTick_35 ?_
        refine lv_iload_n hx hb dX4_goOneTick_38 rfl (lv_at hl 2 rfl) ?_
        refine lv_aload_n hx hb dX4_goOneTick_39 rfl (lv_at hl 1 rfl) ?_
        refine lv_iload_n hx hb dX4_goOneTick_40 rfl (lv_at hl 3 rfl) ?_
        refine lv_aload_n hx hb dX4_goOneTick_41 rfl (lv_at hl 0 rfl) ?_
        obtain ⟨z4, hz4, hF⟩ := bnd hF
        refine inI (runV C0 hlo hK hZ hW hS (kX4_goShaft l lo g h _ v2 i3_ hi3_ _ _ hz4) wCO_X4_goShaft wML_X4_300 wIM_X4_goShaft wSE_X4_X4_goShaft wIN_X4 hdX4_goShaft ⟨Nat.le_of_ble_eq_true rfl, Nat.le_of_ble_eq_true rfl⟩ (recvK hK hW (al0 h 0 (by decide)) (ct0 0) rfl) rfl hl.1 rfl (Nat.le_of_ble_eq_true rfl) dX4_goOneTick_42 ⟨Nat.le_of_ble_eq_true rfl, Nat.le_of_ble_eq_true rfl⟩) hS (fun H locs hW hS => ?_)
        refine lv_iadd hx hb dX4_goOneTick_45 ?_
        refine lv_istore_n (lv' := [(1, .int (v1 + z4.1)), (3, .ref (h.2.2 5 i3_)), (0, .ref (h.2.2 0 0)), (2, .int v2)]) hx hb dX4_goOneTick_46 rfl hl (by decide) rfl (fun ls hl => ?_)
        refine lv_iinc (v := v2 + 1) (lv' := [(2, .int (v2 + 1)), (1, .int (v1 + z4.1)), (3, .ref (h.2.2 5 i3_)), (0, .ref (h.2.2 0 0))]) hx hb dX4_goOneTick_47 hl (k := 3) rfl rfl (by decide) rfl (fun ls hl => ?_)
        refine lv_goto (tgt := 18) hx hb dX4_goOneTick_50 (by decide) ?_
        exact ih (v1 + z4.1) (v2 + 1) z4.2 z hF _ _ _ hW hS (lv_sub hl [3, 1, 0] rfl) kk
set_option maxHeartbeats 4000000 in
set_option maxRecDepth 100000 in
theorem kX4_goOneTick (l : Launch) (lo : Nat) (g : Gx) (h : Sh) (σ : Sg)   (r : Int32) (σ1 : Sg) (hF : FX4_goOneTick h.1 h.2.1 σ  = some (r, σ1)) : MI l yX4_goOneTick (ws_ yX4_goOneTick cX4_goOneTick 4 (some .int)) 5 127 0 0 lo g h [.ref (h.2.2 0 0)] σ r σ1 := by
  refine ofB (own := RX4) (by decide +kernel) rfl (fun p e s m below meth c C0 hr hlk hlo hK hZ hW hS ls hl => ?_) (Nat.le_of_ble_eq_true rfl)
  have hx := C0.1
  have hb := C0.2.1
  have hl : lv_has ls 4 [(0, .ref (h.2.2 0 0))] := hl
  unfold FX4_goOneTick at hF
  refine lv_aload_n hx hb dX4_goOneTick_0 rfl (lv_at hl 0 rfl) ?_
  refine lv_dup hx hb dX4_goOneTick_1 rfl ?_
  refine get0 C0 hK hW 0 (al0 h 0 (by decide)) 6 (by decide) wFL_X4_234 rfl rfl dX4_goOneTick_2 ?_
  refine lv_iconst (v := 1) hx hb dX4_goOneTick_5 (by decide) ?_
  refine lv_iadd hx hb dX4_goOneTick_6 ?_
  refine put0_6 C0 hK hW hS 0 (al0 h 0 (by decide)) wFL_X4_234 dX4_goOneTick_7 (fun H locs hW hS => ?_)
  refine lv_aload_n hx hb dX4_goOneTick_10 rfl (lv_at hl 0 rfl) ?_
  obtain ⟨z1, hz1, hF⟩ := bnd hF
  refine inV (runV C0 hlo hK hZ hW hS (kX4_shareBetweenCoupled l lo g h _   _ hz1) wCO_X4_shareBetweenCoupled wML_X4_297 wIM_X4_shareBetweenCoupled wSE_X4_X4_shareBetweenCoupled wIN_X4 hdX4_shareBetweenCoupled ⟨Nat.le_of_ble_eq_true rfl, Nat.le_of_ble_eq_true rfl⟩ (recvK hK hW (al0 h 0 (by decide)) (ct0 0) rfl) rfl hl.1 rfl (Nat.le_of_ble_eq_true rfl) dX4_goOneTick_11 ⟨Nat.le_of_ble_eq_true rfl, Nat.le_of_ble_eq_true rfl⟩) hS (fun H locs hW hS => ?_)
  refine lv_iconst (v := 0) hx hb dX4_goOneTick_14 (by decide) ?_
  refine lv_istore_n (lv' := [(1, .int 0), (0, .ref (h.2.2 0 0))]) hx hb dX4_goOneTick_15 rfl hl (by decide) rfl (fun ls hl => ?_)
  refine lv_iconst (v := 0) hx hb dX4_goOneTick_16 (by decide) ?_
  refine lv_istore_n (lv' := [(2, .int 0), (1, .int 0), (0, .ref (h.2.2 0 0))]) hx hb dX4_goOneTick_17 rfl hl (by decide) rfl (fun ls hl => ?_)
  obtain ⟨z5, hz5, hF⟩ := bnd hF
  refine lX4_goOneTick_18 C0 hlo hK hZ   _ 0 0 _ z5 hz5 _ _ _ hW hS (lv_sub hl [2, 1, 0] rfl) (fun H locs ls hW hS hl => ?_)
  refine lv_iload_n hx hb dX4_goOneTick_53 rfl (lv_at hl 0 rfl) ?_
  cases hF
  exact retI C0 hr hlk hW hS dX4_goOneTick_54
