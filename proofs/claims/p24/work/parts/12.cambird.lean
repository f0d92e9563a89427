theorem hdX1_hasPoint : yX1_hasPoint.cls = RX1 ∧ yX1_hasPoint.cls ≠ "java/lang/invoke/MethodHandle" ∧ yX1_hasPoint.cls ≠ "java/lang/invoke/VarHandle" ∧ (parseMethodDescriptor yX1_hasPoint.desc).map (fun d => d.parameters.length) = some 1 := by decide +kernel
def FX1_hasPoint (ns nb : Nat) (σ : Sg) (i0 : Nat) (a1 : Int32) : Option (Int32 × Sg) :=
  (FX4_at ns nb σ 11 i0 a1).bind fun z1 => if z1.1 = 1 then (some (1, z1.2)) else (some (0, z1.2))
set_option maxHeartbeats 4000000 in
set_option maxRecDepth 100000 in
theorem kX1_hasPoint (l : Launch) (lo : Nat) (g : Gx) (h : Sh) (σ : Sg) (i0 : Nat) (a1 : Int32) (hi0 : i0 < 3 * h.2.1) (r : Int32) (σ1 : Sg) (hF : FX1_hasPoint h.1 h.2.1 σ i0 a1 = some (r, σ1)) : MI l yX1_hasPoint (ws_ yX1_hasPoint cX1_hasPoint 2 (some .boolean)) 1 21 0 0 lo g h [.ref (h.2.2 10 i0), .int a1] σ r σ1 := by
  refine ofB (own := RX1) (by decide +kernel) rfl (fun p e s m below meth c C0 hr hlk hlo hK hZ hW hS ls hl => ?_) (Nat.le_of_ble_eq_true rfl)
  have hx := C0.1
  have hb := C0.2.1
  have hl : lv_has ls 2 [(0, .ref (h.2.2 10 i0)), (1, .int a1)] := hl
  unfold FX1_hasPoint at hF
  refine lv_aload_n hx hb dX1_hasPoint_0 rfl (lv_at hl 0 rfl) ?_
  refine get10 C0 hK hW i0 (al10 10 hi0 (by decide)) 0 (by decide) wFL_X1_9 rfl rfl dX1_hasPoint_1 ?_
  refine lv_iload_n hx hb dX1_hasPoint_4 rfl (lv_at hl 1 rfl) ?_
  obtain ⟨z1, hz1, hF⟩ := bnd hF
  refine inI (runN (host := "BirdParlour") C0 hlo hK hZ hW hS (kX4_at l lo g h _ 11 i0 a1 (al10 11 hi0 (by decide)) (by decide) _ _ hz1) wCO_X4_at (by decide +kernel) wST_X4_at wIN_X4 hdsX4_at ⟨Nat.le_of_ble_eq_true rfl, Nat.le_of_ble_eq_true rfl⟩ rfl hl.1 rfl (Nat.le_of_ble_eq_true rfl) dX1_hasPoint_5 ⟨Nat.le_of_ble_eq_true rfl, Nat.le_of_ble_eq_true rfl⟩) hS (fun H locs hW hS => ?_)
  refine lv_iconst (v := 1) hx hb dX1_hasPoint_8 (by decide) ?_
  refine lv_icmp_ne (tgt := 16) hx hb dX1_hasPoint_9 (by decide) (fun c2 => ?_) (fun c2 => ?_)
  · rw [if_neg c2] at hF
    refine lv_iconst (v := 0) hx hb dX1_hasPoint_16 (by decide) ?_
    cases hF
    exact retZ C0 hr hlk (Or.inl rfl) hW hS dX1_hasPoint_17
  · rw [if_pos c2] at hF
    refine lv_iconst (v := 1) hx hb dX1_hasPoint_12 (by decide) ?_
    refine lv_goto (tgt := 17) hx hb dX1_hasPoint_13 (by decide) ?_
    cases hF
    exact retZ C0 hr hlk (Or.inr rfl) hW hS dX1_hasPoint_17
theorem hdX1_drawBehind : yX1_drawBehind.cls = RX1 ∧ yX1_drawBehind.cls ≠ "java/lang/invoke/MethodHandle" ∧ yX1_drawBehind.cls ≠ "java/lang/invoke/VarHandle" ∧ (parseMethodDescriptor yX1_drawBehind.desc).map (fun d => d.parameters.length) = some 2 := by decide +kernel
def LX1_drawBehind_2 (ns nb : Nat) (j0 : Nat) (v1 : Int32) (v2 : Int32) : Nat → Int32 → Sg → Option (Int32 × Sg)
  | 0, _, _ => none
  | n + 1, v3, σ => if v2 ≤ v3 then (some (v3, σ)) else ((FX4_remainder ns nb σ (v1 + v3) v2).bind fun z2 => (FX1_hasPoint ns nb z2.2 j0 z2.1).bind fun z3 => if z3.1 = 0 then (LX1_drawBehind_2 ns nb j0 v1 v2 n (v3 + 1) z3.2) else (some (v3, z3.2)))
def LX1_drawBehind_59 (ns nb : Nat) (j0 : Nat) (v1 : Int32) (v2 : Int32) (v3 : Int32) (v4 : Int32) (v5 : Int32) : Nat → Int32 → Sg → Option (Sg)
  | 0, _, _ => none
  | n + 1, v6, σ => if v3 ≤ v6 then (some (σ)) else ((FX4_remainder ns nb σ (v1 + v6) v2).bind fun z10 => (FJ9_floorDiv_7cf53 ns nb z10.2 (v5 * v6) v3).bind fun z11 => (FX4_put ns nb z11.2 12 j0 z10.1 (v4 + z11.1)).bind fun z12 => LX1_drawBehind_59 ns nb j0 v1 v2 v3 v4 v5 n (v6 + 1) z12)
def FX1_drawBehind (ns nb : Nat) (σ : Sg) (i0 : Nat) (a1 : Int32) (a2 : Int32) : Option Sg :=
  (LX1_drawBehind_2 ns nb i0 a1 a2 4100 1 σ).bind fun z5 => (FX4_at ns nb z5.2 12 i0 a1).bind fun z6 => (FX4_remainder ns nb z6.2 (a1 + z5.1) a2).bind fun z7 => (FX4_at ns nb z7.2 12 i0 z7.1).bind fun z8 => (LX1_drawBehind_59 ns nb i0 a1 a2 z5.1 z6.1 (z8.1 - z6.1) 4100 1 z8.2).bind fun z13 => some z13
set_option maxHeartbeats 4000000 in
set_option maxRecDepth 100000 in
theorem lX1_drawBehind_2 {p : Program} {l : Launch} {e : Env} {s : State} {m : MethodId} {args : Array Value} {below : List Frame} {meth : Method} {c : Code} {Q : State → Prop} {lo : Nat} {g : Gx} {h : Sh} (C0 : CallFix p m c cX1_drawBehind 7 s args wB RX1) (hlo : lo ≤ s.heap.size) (hK : KW g s) (hZ : ZW lo s s.heap) (j0 : Nat) (v1 : Int32) (v2 : Int32) (hj0 : j0 < 3 * h.2.1) : ∀ (n : Nat) (v3 : Int32) (σ : Sg) (z : (Int32 × Sg)) (hF : LX1_drawBehind_2 h.1 h.2.1 j0 v1 v2 n v3 σ = some z) (H : Heap) (locs : List Loc) (ls : Array Slot) (hW : FW g h (Ax lo) σ H) (hS : va_S (Ax lo) s.heap H locs) (hl : lv_has ls 7 [(0, .ref (h.2.2 10 j0)), (1, .int v1), (2, .int v2), (3, .int v3)]) (kk : ∀ (H : Heap) (locs : List Loc) (ls : Array Slot), FW g h (Ax lo) z.2 H → va_S (Ax lo) s.heap H locs → lv_has ls 7 [(0, .ref (h.2.2 10 j0)), (1, .int v1), (2, .int v2), (3, .int z.1)] → W p l e { frames := 2, cells := 0, slots := 0, locals := 42 } s m args below meth c H locs 0 0 Q (F0 m 27 ls [])), W p l e { frames := 2, cells := 0, slots := 0, locals := 42 } s m args below meth c H locs 0 0 Q (F0 m 2 ls []) := by
  have hx := C0.1
  have hb := C0.2.1
  intro n
  induction n with
  | zero =>
    intro v3 σ z hF
    rw [LX1_drawBehind_2] at hF
    cases hF
  | succ n ih =>
    intro v3 σ z hF H locs ls hW hS hl kk
    rw [LX1_drawBehind_2] at hF
    refine lv_iload_n hx hb dX1_drawBehind_2 rfl (lv_at hl 3 rfl) ?_
    refine lv_iload_n hx hb dX1_drawBehind_3 rfl (lv_at hl 2 rfl) ?_
    refine lv_icmp_ge (tgt := 27) hx hb dX1_drawBehind_4 (by decide) (fun c1 => ?_) (fun c1 => ?_)
    · rw [if_pos c1] at hF
      cases hF
      exact kk _ _ _ hW hS (lv_sub hl [0, 1, 2, 3] rfl)
    · rw [if_neg c1] at hF
      refine lv_aload_n hx hb dX1_drawBehind_7 rfl (lv_at hl 0 rfl) ?_
      refine lv_iload_n hx hb dX1_drawBehind_8 rfl (lv_at hl 1 rfl) ?_
      refine lv_iload_n hx hb dX1_drawBehind_9 rfl (lv_at hl 3 rfl) ?_
      refine lv_iadd hx hb dX1_drawBehind_10 ?_
      refine lv_iload_n hx hb dX1_drawBehind_11 rfl (lv_at hl 2 rfl) ?_
      obtain ⟨z2, hz2, hF⟩ := bnd hF
      refine inI (runN (host := "BirdParlour") C0 hlo hK hZ hW hS (kX4_remainder l lo g h _ (v1 + v3) v2  _ _ hz2) wCO_X4_remainder (by decide +kernel) wST_X4_remainder wIN_X4 hdsX4_remainder ⟨Nat.le_of_ble_eq_true rfl, Nat.le_of_ble_eq_true rfl⟩ rfl hl.1 rfl (Nat.le_of_ble_eq_true rfl) dX1_drawBehind_12 ⟨Nat.le_of_ble_eq_true rfl, Nat.le_of_ble_eq_true rfl⟩) hS (fun H locs hW hS => ?_)
      obtain ⟨z3, hz3, hF⟩ := bnd hF
      refine inI (runV C0 hlo hK hZ hW hS (kX1_hasPoint l lo g h _ j0 z2.1 hj0 _ _ hz3) wCO_X1_hasPoint wML_X1_22 wIM_X1_hasPoint wSE_X1_X1_hasPoint wIN_X1 hdX1_hasPoint ⟨Nat.le_of_ble_eq_true rfl, Nat.le_of_ble_eq_true rfl⟩ (recvK hK hW (al10 10 hj0 (by decide)) (ct10 j0) rfl) rfl hl.1 rfl (Nat.le_of_ble_eq_true rfl) dX1_drawBehind_15 ⟨Nat.le_of_ble_eq_true rfl, Nat.le_of_ble_eq_true rfl⟩) hS (fun H locs hW hS => ?_)
      refine lv_if_ne (tgt := 27) hx hb dX1_drawBehind_18 (by decide) (fun c4 => ?_) (fun c4 => ?_)
      · rw [if_neg c4] at hF
        cases hF
        exact kk _ _ _ hW hS (lv_sub hl [0, 1, 2, 3] rfl)
      · rw [if_pos c4] at hF
        refine lv_iinc (v := v3 + 1) (lv' := [(3, .int (v3 + 1)), (0, .ref (h.2.2 10 j0)), (1, .int v1), (2, .int v2)]) hx hb dX1_drawBehind_21 hl (k := 3) rfl rfl (by decide) rfl (fun ls hl => ?_)
        refine lv_goto (tgt := 2) hx hb dX1_drawBehind_24 (by decide) ?_
        exact ih (v3 + 1) z3.2 z hF _ _ _ hW hS (lv_sub hl [1, 2, 3, 0] rfl) kk
set_option maxHeartbeats 4000000 in
set_option maxRecDepth 100000 in
theorem lX1_drawBehind_59 {p : Program} {l : Launch} {e : Env} {s : State} {m : MethodId} {args : Array Value} {below : List Frame} {meth : Method} {c : Code} {Q : State → Prop} {lo : Nat} {g : Gx} {h : Sh} (C0 : CallFix p m c cX1_drawBehind 7 s args wB RX1) (hlo : lo ≤ s.heap.size) (hK : KW g s) (hZ : ZW lo s s.heap) (j0 : Nat) (v1 : Int32) (v2 : Int32) (v3 : Int32) (v4 : Int32) (v5 : Int32) (hj0 : j0 < 3 * h.2.1) : ∀ (n : Nat) (v6 : Int32) (σ : Sg) (z : (Sg)) (hF : LX1_drawBehind_59 h.1 h.2.1 j0 v1 v2 v3 v4 v5 n v6 σ = some z) (H : Heap) (locs : List Loc) (ls : Array Slot) (hW : FW g h (Ax lo) σ H) (hS : va_S (Ax lo) s.heap H locs) (hl : lv_has ls 7 [(0, .ref (h.2.2 10 j0)), (1, .int v1), (2, .int v2), (3, .int v3), (4, .int v4), (5, .int v5), (6, .int v6)]) (kk : ∀ (H : Heap) (locs : List Loc) (ls : Array Slot), FW g h (Ax lo) z H → va_S (Ax lo) s.heap H locs → lv_has ls 7 [] → W p l e { frames := 2, cells := 0, slots := 0, locals := 42 } s m args below meth c H locs 0 0 Q (F0 m 98 ls [])), W p l e { frames := 2, cells := 0, slots := 0, locals := 42 } s m args below meth c H locs 0 0 Q (F0 m 59 ls []) := by
  have hx := C0.1
  have hb := C0.2.1
  intro n
  induction n with
  | zero =>
    intro v6 σ z hF
    rw [LX1_drawBehind_59] at hF
    cases hF
  | succ n ih =>
    intro v6 σ z hF H locs ls hW hS hl kk
    rw [LX1_drawBehind_59] at hF
    refine lv_iload hx hb dX1_drawBehind_59 (lv_at hl 6 rfl) ?_
    refine lv_iload_n hx hb dX1_drawBehind_61 rfl (lv_at hl 3 rfl) ?_
    refine lv_icmp_ge (tgt := 98) hx hb dX1_drawBehind_62 (by decide) (fun c9 => ?_) (fun c9 => ?_)
    · rw [if_pos c9] at hF
      cases hF
      exact kk _ _ _ hW hS (lv_sub hl [] rfl)
    · rw [if_neg c9] at hF
      refine lv_aload_n hx hb dX1_drawBehind_65 rfl (lv_at hl 0 rfl) ?_
      refine get10 C0 hK hW j0 (al10 10 hj0 (by decide)) 1 (by decide) wFL_X1_15 rfl rfl dX1_drawBehind_66 ?_
      refine lv_iload_n hx hb dX1_drawBehind_69 rfl (lv_at hl 1 rfl) ?_
      refine lv_iload hx hb dX1_drawBehind_70 (lv_at hl 6 rfl) ?_
      refine lv_iadd hx hb dX1_drawBehind_72 ?_
      refine lv_iload_n hx hb dX1_drawBehind_73 rfl (lv_at hl 2 rfl) ?_
      obtain ⟨z10, hz10, hF⟩ := bnd hF
      refine inI (runN (host := "BirdParlour") C0 hlo hK hZ hW hS (kX4_remainder l lo g h _ (v1 + v6) v2  _ _ hz10) wCO_X4_remainder (by decide +kernel) wST_X4_remainder wIN_X4 hdsX4_remainder ⟨Nat.le_of_ble_eq_true rfl, Nat.le_of_ble_eq_true rfl⟩ rfl hl.1 rfl (Nat.le_of_ble_eq_true rfl) dX1_drawBehind_74 ⟨Nat.le_of_ble_eq_true rfl, Nat.le_of_ble_eq_true rfl⟩) hS (fun H locs hW hS => ?_)
      refine lv_iload hx hb dX1_drawBehind_77 (lv_at hl 4 rfl) ?_
      refine lv_iload hx hb dX1_drawBehind_79 (lv_at hl 5 rfl) ?_
      refine lv_iload hx hb dX1_drawBehind_81 (lv_at hl 6 rfl) ?_
      refine lv_imul hx hb dX1_drawBehind_83 ?_
      refine lv_iload_n hx hb dX1_drawBehind_84 rfl (lv_at hl 3 rfl) ?_
      obtain ⟨z11, hz11, hF⟩ := bnd hF
      refine inI (runS C0 hlo hK hZ hW hS (kJ9_floorDiv_7cf53 l lo g h _ (v5 * v6) v3  _ _ hz11) wCO_J9_floorDiv_7cf53 wML_X1_46 wST_J9_floorDiv_7cf53 wIN_J9 hdsJ9_floorDiv_7cf53 ⟨Nat.le_of_ble_eq_true rfl, Nat.le_of_ble_eq_true rfl⟩ rfl hl.1 rfl (Nat.le_of_ble_eq_true rfl) dX1_drawBehind_85 ⟨Nat.le_of_ble_eq_true rfl, Nat.le_of_ble_eq_true rfl⟩) hS (fun H locs hW hS => ?_)
      refine lv_iadd hx hb dX1_drawBehind_88 ?_
      obtain ⟨z12, hz12, hF⟩ := bnd hF
      refine inV (runN (host := "BirdParlour") C0 hlo hK hZ hW hS (kX4_put l lo g h _ 12 j0 z10.1 (v4 + z11.1) (al10 12 hj0 (by decide)) (by decide) _ hz12) wCO_X4_put (by decide +kernel) wST_X4_put wIN_X4 hdsX4_put ⟨Nat.le_of_ble_eq_true rfl, Nat.le_of_ble_eq_true rfl⟩ rfl hl.1 rfl (Nat.le_of_ble_eq_true rfl) dX1_drawBehind_89 ⟨Nat.le_of_ble_eq_true rfl, Nat.le_of_ble_eq_true rfl⟩) hS (fun H locs hW hS => ?_)
      refine lv_iinc (v := v6 + 1) (lv' := [(6, .int (v6 + 1)), (0, .ref (h.2.2 10 j0)), (1, .int v1), (2, .int v2), (3, .int v3), (4, .int v4), (5, .int v5)]) hx hb dX1_drawBehind_92 hl (k := 6) rfl rfl (by decide) rfl (fun ls hl => ?_)
      refine lv_goto (tgt := 59) hx hb dX1_drawBehind_95 (by decide) ?_
      exact ih (v6 + 1) z12 z hF _ _ _ hW hS (lv_sub hl [1, 2, 3, 4, 5, 6, 0] rfl) kk
set_option maxHeartbeats 4000000 in
set_option maxRecDepth 100000 in
theorem kX1_drawBehind (l : Launch) (lo : Nat) (g : Gx) (h : Sh) (σ : Sg) (i0 : Nat) (a1 : Int32) (a2 : Int32) (hi0 : i0 < 3 * h.2.1) (σ1 : Sg) (hF : FX1_drawBehind h.1 h.2.1 σ i0 a1 a2 = some σ1) : MV l yX1_drawBehind (ws_ yX1_drawBehind cX1_drawBehind 7 none) 2 42 0 0 lo g h [.ref (h.2.2 10 i0), .int a1, .int a2] σ σ1 := by
  refine ofB (own := RX1) (by decide +kernel) rfl (fun p e s m below meth c C0 hr hlk hlo hK hZ hW hS ls hl => ?_) (Nat.le_of_ble_eq_true rfl)
  have hx := C0.1
  have hb := C0.2.1
  have hl : lv_has ls 7 [(0, .ref (h.2.2 10 i0)), (1, .int a1), (2, .int a2)] := hl
  unfold FX1_drawBehind at hF
  refine lv_iconst (v := 1) hx hb dX1_drawBehind_0 (by decide) ?_
  refine lv_istore_n (lv' := [(3, .int 1), (0, .ref (h.2.2 10 i0)), (1, .int a1), (2, .int a2)]) hx hb dX1_drawBehind_1 rfl hl (by decide) rfl (fun ls hl => ?_)
  obtain ⟨z5, hz5, hF⟩ := bnd hF
  refine lX1_drawBehind_2 C0 hlo hK hZ i0 a1 a2 hi0 _ 1 _ z5 hz5 _ _ _ hW hS (lv_sub hl [1, 2, 3, 0] rfl) (fun H locs ls hW hS hl => ?_)
  refine lv_aload_n hx hb dX1_drawBehind_27 rfl (lv_at hl 0 rfl) ?_
  refine get10 C0 hK hW i0 (al10 10 hi0 (by decide)) 1 (by decide) wFL_X1_15 rfl rfl dX1_drawBehind_28 ?_
  refine lv_iload_n hx hb dX1_drawBehind_31 rfl (lv_at hl 1 rfl) ?_
  obtain ⟨z6, hz6, hF⟩ := bnd hF
  refine inI (runN (host := "BirdParlour") C0 hlo hK hZ hW hS (kX4_at l lo g h _ 12 i0 a1 (al10 12 hi0 (by decide)) (by decide) _ _ hz6) wCO_X4_at (by decide +kernel) wST_X4_at wIN_X4 hdsX4_at ⟨Nat.le_of_ble_eq_true rfl, Nat.le_of_ble_eq_true rfl⟩ rfl hl.1 rfl (Nat.le_of_ble_eq_true rfl) dX1_drawBehind_32 ⟨Nat.le_of_ble_eq_true rfl, Nat.le_of_ble_eq_true rfl⟩) hS (fun H locs hW hS => ?_)
  refine lv_istore (lv' := [(4, .int z6.1), (0, .ref (h.2.2 10 i0)), (1, .int a1), (2, .int a2), (3, .int z5.1)]) hx hb dX1_drawBehind_35 hl (by decide) rfl (fun ls hl => ?_)
  refine lv_aload_n hx hb dX1_drawBehind_37 rfl (lv_at hl 1 rfl) ?_
  refine get10 C0 hK hW i0 (al10 10 hi0 (by decide)) 1 (by decide) wFL_X1_15 rfl rfl dX1_drawBehind_38 ?_
  refine lv_iload_n hx hb dX1_drawBehind_41 rfl (lv_at hl 2 rfl) ?_
  refine lv_iload_n hx hb dX1_drawBehind_42 rfl (lv_at hl 4 rfl) ?_
  refine lv_iadd hx hb dX1_drawBehind_43 ?_
  refine lv_iload_n hx hb dX1_drawBehind_44 rfl (lv_at hl 3 rfl) ?_
  obtain ⟨z7, hz7, hF⟩ := bnd hF
  refine inI (runN (host := "BirdParlour") C0 hlo hK hZ hW hS (kX4_remainder l lo g h _ (a1 + z5.1) a2  _ _ hz7) wCO_X4_remainder (by decide +kernel) wST_X4_remainder wIN_X4 hdsX4_remainder ⟨Nat.le_of_ble_eq_true rfl, Nat.le_of_ble_eq_true rfl⟩ rfl hl.1 rfl (Nat.le_of_ble_eq_true rfl) dX1_drawBehind_45 ⟨Nat.le_of_ble_eq_true rfl, Nat.le_of_ble_eq_true rfl⟩) hS (fun H locs hW hS => ?_)
  obtain ⟨z8, hz8, hF⟩ := bnd hF
  refine inI (runN (host := "BirdParlour") C0 hlo hK hZ hW hS (kX4_at l lo g h _ 12 i0 z7.1 (al10 12 hi0 (by decide)) (by decide) _ _ hz8) wCO_X4_at (by decide +kernel) wST_X4_at wIN_X4 hdsX4_at ⟨Nat.le_of_ble_eq_true rfl, Nat.le_of_ble_eq_true rfl⟩ rfl hl.1 rfl (Nat.le_of_ble_eq_true rfl) dX1_drawBehind_48 ⟨Nat.le_of_ble_eq_true rfl, Nat.le_of_ble_eq_true rfl⟩) hS (fun H locs hW hS => ?_)
  refine lv_iload hx hb dX1_drawBehind_51 (lv_at hl 0 rfl) ?_
  refine lv_isub hx hb dX1_drawBehind_53 ?_
  refine lv_istore (lv' := [(5, .int (z8.1 - z6.1)), (4, .int z6.1), (0, .ref (h.2.2 10 i0)), (1, .int a1), (2, .int a2), (3, .int z5.1)]) hx hb dX1_drawBehind_54 hl (by decide) rfl (fun ls hl => ?_)
  refine lv_iconst (v := 1) hx hb dX1_drawBehind_56 (by decide) ?_
  refine lv_istore (lv' := [(6, .int 1), (5, .int (z8.1 - z6.1)), (4, .int z6.1), (0, .ref (h.2.2 10 i0)), (1, .int a1), (2, .int a2), (3, .int z5.1)]) hx hb dX1_drawBehind_57 hl (by decide) rfl (fun ls hl => ?_)
  obtain ⟨z13, hz13, hF⟩ := bnd hF
  refine lX1_drawBehind_59 C0 hlo hK hZ i0 a1 a2 z5.1 z6.1 (z8.1 - z6.1) hi0 _ 1 _ z13 hz13 _ _ _ hW hS (lv_sub hl [3, 4, 5, 6, 2, 1, 0] rfl) (fun H locs ls hW hS hl => ?_)
  cases hF
  exact retV C0 hr hlk hW hS dX1_drawBehind_98
theorem hdX1_draw : yX1_draw.cls = RX1 ∧ yX1_draw.cls ≠ "java/lang/invoke/MethodHandle" ∧ yX1_draw.cls ≠ "java/lang/invoke/VarHandle" ∧ (parseMethodDescriptor yX1_draw.desc).map (fun d => d.parameters.length) = some 1 := by decide +kernel
def LX1_draw_2 (ns nb : Nat) (j0 : Nat) (v1 : Int32) : Nat → Int32 → Sg → Option (Sg)
  | 0, _, _ => none
  | n + 1, v2, σ => if v1 ≤ v2 then (some (σ)) else ((FX1_hasPoint ns nb σ j0 v2).bind fun z2 => if z2.1 = 0 then (if (z2.2.1 10 j0 2) = 0 then ((FX4_put ns nb z2.2 12 j0 v2 0).bind fun z5 => LX1_draw_2 ns nb j0 v1 n (v2 + 1) z5) else (LX1_draw_2 ns nb j0 v1 n (v2 + 1) z2.2)) else ((FX1_drawBehind ns nb z2.2 j0 v2 v1).bind fun z6 => LX1_draw_2 ns nb j0 v1 n (v2 + 1) z6))
def FX1_draw (ns nb : Nat) (σ : Sg) (i0 : Nat) (a1 : Int32) : Option Sg :=
  (LX1_draw_2 ns nb i0 a1 4100 0 σ).bind fun z7 => some z7
set_option maxHeartbeats 4000000 in
set_option maxRecDepth 100000 in
theorem lX1_draw_2 {p : Program} {l : Launch} {e : Env} {s : State} {m : MethodId} {args : Array Value} {below : List Frame} {meth : Method} {c : Code} {Q : State → Prop} {lo : Nat} {g : Gx} {h : Sh} (C0 : CallFix p m c cX1_draw 3 s args wB RX1) (hlo : lo ≤ s.heap.size) (hK : KW g s) (hZ : ZW lo s s.heap) (j0 : Nat) (v1 : Int32) (hj0 : j0 < 3 * h.2.1) : ∀ (n : Nat) (v2 : Int32) (σ : Sg) (z : (Sg)) (hF : LX1_draw_2 h.1 h.2.1 j0 v1 n v2 σ = some z) (H : Heap) (locs : List Loc) (ls : Array Slot) (hW : FW g h (Ax lo) σ H) (hS : va_S (Ax lo) s.heap H locs) (hl : lv_has ls 3 [(0, .ref (h.2.2 10 j0)), (1, .int v1), (2, .int v2)]) (kk : ∀ (H : Heap) (locs : List Loc) (ls : Array Slot), FW g h (Ax lo) z H → va_S (Ax lo) s.heap H locs → lv_has ls 3 [] → W p l e { frames := 3, cells := 0, slots := 0, locals := 68 } s m args below meth c H locs 0 0 Q (F0 m 46 ls [])), W p l e { frames := 3, cells := 0, slots := 0, locals := 68 } s m args below meth c H locs 0 0 Q (F0 m 2 ls []) := by
  have hx := C0.1
  have hb := C0.2.1
  intro n
  induction n with
  | zero =>
    intro v2 σ z hF
    rw [LX1_draw_2] at hF
    cases hF
  | succ n ih =>
    intro v2 σ z hF H locs ls hW hS hl kk
    rw [LX1_draw_2] at hF
    refine lv_iload_n hx hb dX1_draw_2 rfl (lv_at hl 2 rfl) ?_
    refine lv_iload_n hx hb dX1_draw_3 rfl (lv_at hl 1 rfl) ?_
    refine lv_icmp_ge (tgt := 46) hx hb dX1_draw_4 (by decide) (fun c1 => ?_) (fun c1 => ?_)
    · rw [if_pos c1] at hF
      cases hF
      exact kk _ _ _ hW hS (lv_sub hl [] rfl)
    · rw [if_neg c1] at hF
      refine lv_aload_n hx hb dX1_draw_7 rfl (lv_at hl 0 rfl) ?_
      refine lv_iload_n hx hb dX1_draw_8 rfl (lv_at hl 2 rfl) ?_
      obtain ⟨z2, hz2, hF⟩ := bnd hF
      refine inI (runV C0 hlo hK hZ hW hS (kX1_hasPoint l lo g h _ j0 v2 hj0 _ _ hz2) wCO_X1_hasPoint wML_X1_22 wIM_X1_hasPoint wSE_X1_X1_hasPoint wIN_X1 hdX1_hasPoint ⟨Nat.le_of_ble_eq_true rfl, Nat.le_of_ble_eq_true rfl⟩ (recvK hK hW (al10 10 hj0 (by decide)) (ct10 j0) rfl) rfl hl.1 rfl (Nat.le_of_ble_eq_true rfl) dX1_draw_9 ⟨Nat.le_of_ble_eq_true rfl, Nat.le_of_ble_eq_true rfl⟩) hS (fun H locs hW hS => ?_)
      refine lv_if_eq (tgt := 24) hx hb dX1_draw_12 (by decide) (fun c3 => ?_) (fun c3 => ?_)
      · rw [if_pos c3] at hF
        refine lv_aload_n hx hb dX1_draw_24 rfl (lv_at hl 0 rfl) ?_
        refine get10 C0 hK hW j0 (al10 10 hj0 (by decide)) 2 (by decide) wFL_X1_26 rfl rfl dX1_draw_25 ?_
        refine lv_if_ne (tgt := 40) hx hb dX1_draw_28 (by decide) (fun c4 => ?_) (fun c4 => ?_)
        · rw [if_neg c4] at hF
          refine lv_iinc (v := v2 + 1) (lv' := [(2, .int (v2 + 1)), (0, .ref (h.2.2 10 j0)), (1, .int v1)]) hx hb dX1_draw_40 hl (k := 2) rfl rfl (by decide) rfl (fun ls hl => ?_)
          refine lv_goto (tgt := 2) hx hb dX1_draw_43 (by decide) ?_
          exact ih (v2 + 1) z2.2 z hF _ _ _ hW hS (lv_sub hl [1, 2, 0] rfl) kk
        · rw [if_pos c4] at hF
          refine lv_aload_n hx hb dX1_draw_31 rfl (lv_at hl 0 rfl) ?_
          refine get10 C0 hK hW j0 (al10 10 hj0 (by decide)) 1 (by decide) wFL_X1_15 rfl rfl dX1_draw_32 ?_
          refine lv_iload_n hx hb dX1_draw_35 rfl (lv_at hl 2 rfl) ?_
          refine lv_iconst (v := 0) hx hb dX1_draw_36 (by decide) ?_
          obtain ⟨z5, hz5, hF⟩ := bnd hF
          refine inV (runN (host := "BirdParlour") C0 hlo hK hZ hW hS (kX4_put l lo g h _ 12 j0 v2 0 (al10 12 hj0 (by decide)) (by decide) _ hz5) wCO_X4_put (by decide +kernel) wST_X4_put wIN_X4 hdsX4_put ⟨Nat.le_of_ble_eq_true rfl, Nat.le_of_ble_eq_true rfl⟩ rfl hl.1 rfl (Nat.le_of_ble_eq_true rfl) dX1_draw_37 ⟨Nat.le_of_ble_eq_true rfl, Nat.le_of_ble_eq_true rfl⟩) hS (fun H locs hW hS => ?_)
          refine lv_iinc (v := v2 + 1) (lv' := [(2, .int (v2 + 1)), (0, .ref (h.2.2 10 j0)), (1, .int v1)]) hx hb dX1_draw_40 hl (k := 2) rfl rfl (by decide) rfl (fun ls hl => ?_)
          refine lv_goto (tgt := 2) hx hb dX1_draw_43 (by decide) ?_
          exact ih (v2 + 1) z5 z hF _ _ _ hW hS (lv_sub hl [1, 2, 0] rfl) kk
      · rw [if_neg c3] at hF
        refine lv_aload_n hx hb dX1_draw_15 rfl (lv_at hl 0 rfl) ?_
        refine lv_iload_n hx hb dX1_draw_16 rfl (lv_at hl 2 rfl) ?_
        refine lv_iload_n hx hb dX1_draw_17 rfl (lv_at hl 1 rfl) ?_
        obtain ⟨z6, hz6, hF⟩ := bnd hF
        refine inV (runV C0 hlo hK hZ hW hS (kX1_drawBehind l lo g h _ j0 v2 v1 hj0 _ hz6) wCO_X1_drawBehind wML_X1_38 wIM_X1_drawBehind wSE_X1_X1_drawBehind wIN_X1 hdX1_drawBehind ⟨Nat.le_of_ble_eq_true rfl, Nat.le_of_ble_eq_true rfl⟩ (recvK hK hW (al10 10 hj0 (by decide)) (ct10 j0) rfl) rfl hl.1 rfl (Nat.le_of_ble_eq_true rfl) dX1_draw_18 ⟨Nat.le_of_ble_eq_true rfl, Nat.le_of_ble_eq_true rfl⟩) hS (fun H locs hW hS => ?_)
        refine lv_goto (tgt := 40) hx hb dX1_draw_21 (by decide) ?_
        refine lv_iinc (v := v2 + 1) (lv' := [(2, .int (v2 + 1)), (0, .ref (h.2.2 10 j0)), (1, .int v1)]) hx hb dX1_draw_40 hl (k := 2) rfl rfl (by decide) rfl (fun ls hl => ?_)
        refine lv_goto (tgt := 2) hx hb dX1_draw_43 (by decide) ?_
        exact ih (v2 + 1) z6 z hF _ _ _ hW hS (lv_sub hl [1, 2, 0] rfl) kk
set_option maxHeartbeats 4000000 in
set_option maxRecDepth 100000 in
theorem kX1_draw (l : Launch) (lo : Nat) (g : Gx) (h : Sh) (σ : Sg) (i0 : Nat) (a1 : Int32) (hi0 : i0 < 3 * h.2.1) (σ1 : Sg) (hF : FX1_draw h.1 h.2.1 σ i0 a1 = some σ1) : MV l yX1_draw (ws_ yX1_draw cX1_draw 3 none) 3 68 0 0 lo g h [.ref (h.2.2 10 i0), .int a1] σ σ1 := by
  refine ofB (own := RX1) (by decide +kernel) rfl (fun p e s m below meth c C0 hr hlk hlo hK hZ hW hS ls hl => ?_) (Nat.le_of_ble_eq_true rfl)
  have hx := C0.1
  have hb := C0.2.1
  have hl : lv_has ls 3 [(0, .ref (h.2.2 10 i0)), (1, .int a1)] := hl
  unfold FX1_draw at hF
  refine lv_iconst (v := 0) hx hb dX1_draw_0 (by decide) ?_
  refine lv_istore_n (lv' := [(2, .int 0), (0, .ref (h.2.2 10 i0)), (1, .int a1)]) hx hb dX1_draw_1 rfl hl (by decide) rfl (fun ls hl => ?_)
  obtain ⟨z7, hz7, hF⟩ := bnd hF
  refine lX1_draw_2 C0 hlo hK hZ i0 a1 hi0 _ 0 _ z7 hz7 _ _ _ hW hS (lv_sub hl [1, 2, 0] rfl) (fun H locs ls hW hS hl => ?_)
  cases hF
  exact retV C0 hr hlk hW hS dX1_draw_46
theorem hdX1_layPoint : yX1_layPoint.cls = RX1 ∧ yX1_layPoint.cls ≠ "java/lang/invoke/MethodHandle" ∧ yX1_layPoint.cls ≠ "java/lang/invoke/VarHandle" ∧ (parseMethodDescriptor yX1_layPoint.desc).map (fun d => d.parameters.length) = some 3 := by decide +kernel
def FX1_layPoint (ns nb : Nat) (σ : Sg) (i0 : Nat) (a1 : Int32) (a2 : Int32) (a3 : Int32) : Option Sg :=
  (FX1_hasPoint ns nb σ i0 a1).bind fun z1 => if z1.1 = 0 then ((FX4_put ns nb (sI z1.2 10 i0 2 ((z1.2.1 10 i0 2) + 1)) 11 i0 a1 1).bind fun z6 => (FX4_put ns nb z6 12 i0 a1 a2).bind fun z7 => (FX1_draw ns nb z7 i0 a3).bind fun z8 => some z8) else ((FX4_put ns nb z1.2 11 i0 a1 1).bind fun z3 => (FX4_put ns nb z3 12 i0 a1 a2).bind fun z4 => (FX1_draw ns nb z4 i0 a3).bind fun z5 => some z5)
set_option maxHeartbeats 4000000 in
set_option maxRecDepth 100000 in
theorem kX1_layPoint (l : Launch) (lo : Nat) (g : Gx) (h : Sh) (σ : Sg) (i0 : Nat) (a1 : Int32) (a2 : Int32) (a3 : Int32) (hi0 : i0 < 3 * h.2.1) (σ1 : Sg) (hF : FX1_layPoint h.1 h.2.1 σ i0 a1 a2 a3 = some σ1) : MV l yX1_layPoint (ws_ yX1_layPoint cX1_layPoint 4 none) 4 90 0 0 lo g h [.ref (h.2.2 10 i0), .int a1, .int a2, .int a3] σ σ1 := by
  refine ofB (own := RX1) (by decide +kernel) rfl (fun p e s m below meth c C0 hr hlk hlo hK hZ hW hS ls hl => ?_) (Nat.le_of_ble_eq_true rfl)
  have hx := C0.1
  have hb := C0.2.1
  have hl : lv_has ls 4 [(0, .ref (h.2.2 10 i0)), (1, .int a1), (2, .int a2), (3, .int a3)] := hl
  unfold FX1_layPoint at hF
  refine lv_aload_n hx hb dX1_layPoint_0 rfl (lv_at hl 0 rfl) ?_
  refine lv_iload_n hx hb dX1_layPoint_1 rfl (lv_at hl 1 rfl) ?_
  obtain ⟨z1, hz1, hF⟩ := bnd hF
  refine inI (runV C0 hlo hK hZ hW hS (kX1_hasPoint l lo g h _ i0 a1 hi0 _ _ hz1) wCO_X1_hasPoint wML_X1_22 wIM_X1_hasPoint wSE_X1_X1_hasPoint wIN_X1 hdX1_hasPoint ⟨Nat.le_of_ble_eq_true rfl, Nat.le_of_ble_eq_true rfl⟩ (recvK hK hW (al10 10 hi0 (by decide)) (ct10 i0) rfl) rfl hl.1 rfl (Nat.le_of_ble_eq_true rfl) dX1_layPoint_2 ⟨Nat.le_of_ble_eq_true rfl, Nat.le_of_ble_eq_true rfl⟩) hS (fun H locs hW hS => ?_)
  refine lv_if_ne (tgt := 18) hx hb dX1_layPoint_5 (by decide) (fun c2 => ?_) (fun c2 => ?_)
  · rw [if_neg c2] at hF
    refine lv_aload_n hx hb dX1_layPoint_18 rfl (lv_at hl 0 rfl) ?_
    refine get10 C0 hK hW i0 (al10 10 hi0 (by decide)) 0 (by decide) wFL_X1_9 rfl rfl dX1_layPoint_19 ?_
    refine lv_iload_n hx hb dX1_layPoint_22 rfl (lv_at hl 1 rfl) ?_
    refine lv_iconst (v := 1) hx hb dX1_layPoint_23 (by decide) ?_
    obtain ⟨z3, hz3, hF⟩ := bnd hF
    refine inV (runN (host := "BirdParlour") C0 hlo hK hZ hW hS (kX4_put l lo g h _ 11 i0 a1 1 (al10 11 hi0 (by decide)) (by decide) _ hz3) wCO_X4_put (by decide +kernel) wST_X4_put wIN_X4 hdsX4_put ⟨Nat.le_of_ble_eq_true rfl, Nat.le_of_ble_eq_true rfl⟩ rfl hl.1 rfl (Nat.le_of_ble_eq_true rfl) dX1_layPoint_24 ⟨Nat.le_of_ble_eq_true rfl, Nat.le_of_ble_eq_true rfl⟩) hS (fun H locs hW hS => ?_)
    refine lv_aload_n hx hb dX1_layPoint_27 rfl (lv_at hl 0 rfl) ?_
    refine get10 C0 hK hW i0 (al10 10 hi0 (by decide)) 1 (by decide) wFL_X1_15 rfl rfl dX1_layPoint_28 ?_
    refine lv_iload_n hx hb dX1_layPoint_31 rfl (lv_at hl 1 rfl) ?_
    refine lv_iload_n hx hb dX1_layPoint_32 rfl (lv_at hl 2 rfl) ?_
    obtain ⟨z4, hz4, hF⟩ := bnd hF
    refine inV (runN (host := "BirdParlour") C0 hlo hK hZ hW hS (kX4_put l lo g h _ 12 i0 a1 a2 (al10 12 hi0 (by decide)) (by decide) _ hz4) wCO_X4_put (by decide +kernel) wST_X4_put wIN_X4 hdsX4_put ⟨Nat.le_of_ble_eq_true rfl, Nat.le_of_ble_eq_true rfl⟩ rfl hl.1 rfl (Nat.le_of_ble_eq_true rfl) dX1_layPoint_33 ⟨Nat.le_of_ble_eq_true rfl, Nat.le_of_ble_eq_true rfl⟩) hS (fun H locs hW hS => ?_)
    refine lv_aload_n hx hb dX1_layPoint_36 rfl (lv_at hl 0 rfl) ?_
    refine lv_iload_n hx hb dX1_layPoint_37 rfl (lv_at hl 3 rfl) ?_
    obtain ⟨z5, hz5, hF⟩ := bnd hF
    refine inV (runV C0 hlo hK hZ hW hS (kX1_draw l lo g h _ i0 a3 hi0 _ hz5) wCO_X1_draw wML_X1_34 wIM_X1_draw wSE_X1_X1_draw wIN_X1 hdX1_draw ⟨Nat.le_of_ble_eq_true rfl, Nat.le_of_ble_eq_true rfl⟩ (recvK hK hW (al10 10 hi0 (by decide)) (ct10 i0) rfl) rfl hl.1 rfl (Nat.le_of_ble_eq_true rfl) dX1_layPoint_38 ⟨Nat.le_of_ble_eq_true rfl, Nat.le_of_ble_eq_true rfl⟩) hS (fun H locs hW hS => ?_)
    cases hF
    exact retV C0 hr hlk hW hS dX1_layPoint_41
  · rw [if_pos c2] at hF
    refine lv_aload_n hx hb dX1_layPoint_8 rfl (lv_at hl 0 rfl) ?_
    refine lv_dup hx hb dX1_layPoint_9 rfl ?_
    refine get10 C0 hK hW i0 (al10 10 hi0 (by decide)) 2 (by decide) wFL_X1_26 rfl rfl dX1_layPoint_10 ?_
    refine lv_iconst (v := 1) hx hb dX1_layPoint_13 (by decide) ?_
    refine lv_iadd hx hb dX1_layPoint_14 ?_
    refine put10_2 C0 hK hW hS i0 (al10 10 hi0 (by decide)) wFL_X1_26 dX1_layPoint_15 (fun H locs hW hS => ?_)
    refine lv_aload_n hx hb dX1_layPoint_18 rfl (lv_at hl 0 rfl) ?_
    refine get10 C0 hK hW i0 (al10 10 hi0 (by decide)) 0 (by decide) wFL_X1_9 rfl rfl dX1_layPoint_19 ?_
    refine lv_iload_n hx hb dX1_layPoint_22 rfl (lv_at hl 1 rfl) ?_
    refine lv_iconst (v := 1) hx hb dX1_layPoint_23 (by decide) ?_
    obtain ⟨z6, hz6, hF⟩ := bnd hF
    refine inV (runN (host := "BirdParlour") C0 hlo hK hZ hW hS (kX4_put l lo g h _ 11 i0 a1 1 (al10 11 hi0 (by decide)) (by decide) _ hz6) wCO_X4_put (by decide +kernel) wST_X4_put wIN_X4 hdsX4_put ⟨Nat.le_of_ble_eq_true rfl, Nat.le_of_ble_eq_true rfl⟩ rfl hl.1 rfl (Nat.le_of_ble_eq_true rfl) dX1_layPoint_24 ⟨Nat.le_of_ble_eq_true rfl, Nat.le_of_ble_eq_true rfl⟩) hS (fun H locs hW hS => ?_)
    refine lv_aload_n hx hb dX1_layPoint_27 rfl (lv_at hl 0 rfl) ?_
    refine get10 C0 hK hW i0 (al10 10 hi0 (by decide)) 1 (by decide) wFL_X1_15 rfl rfl dX1_layPoint_28 ?_
    refine lv_iload_n hx hb dX1_layPoint_31 rfl (lv_at hl 1 rfl) ?_
    refine lv_iload_n hx hb dX1_layPoint_32 rfl (lv_at hl 2 rfl) ?_
    obtain ⟨z7, hz7, hF⟩ := bnd hF
    refine inV (runN (host := "BirdParlour") C0 hlo hK hZ hW hS (kX4_put l lo g h _ 12 i0 a1 a2 (al10 12 hi0 (by decide)) (by decide) _ hz7) wCO_X4_put (by decide +kernel) wST_X4_put wIN_X4 hdsX4_put ⟨Nat.le_of_ble_eq_true rfl, Nat.le_of_ble_eq_true rfl⟩ rfl hl.1 rfl (Nat.le_of_ble_eq_true rfl) dX1_layPoint_33 ⟨Nat.le_of_ble_eq_true rfl, Nat.le_of_ble_eq_true rfl⟩) hS (fun H locs hW hS => ?_)
    refine lv_aload_n hx hb dX1_layPoint_36 rfl (lv_at hl 0 rfl) ?_
    refine lv_iload_n hx hb dX1_layPoint_37 rfl (lv_at hl 3 rfl) ?_
    obtain ⟨z8, hz8, hF⟩ := bnd hF
    refine inV (runV C0 hlo hK hZ hW hS (kX1_draw l lo g h _ i0 a3 hi0 _ hz8) wCO_X1_draw wML_X1_34 wIM_X1_draw wSE_X1_X1_draw wIN_X1 hdX1_draw ⟨Nat.le_of_ble_eq_true rfl, Nat.le_of_ble_eq_true rfl⟩ (recvK hK hW (al10 10 hi0 (by decide)) (ct10 i0) rfl) rfl hl.1 rfl (Nat.le_of_ble_eq_true rfl) dX1_layPoint_38 ⟨Nat.le_of_ble_eq_true rfl, Nat.le_of_ble_eq_true rfl⟩) hS (fun H locs hW hS => ?_)
    cases hF
    exact retV C0 hr hlk hW hS dX1_layPoint_41
theorem hdX1_takePoint : yX1_takePoint.cls = RX1 ∧ yX1_takePoint.cls ≠ "java/lang/invoke/MethodHandle" ∧ yX1_takePoint.cls ≠ "java/lang/invoke/VarHandle" ∧ (parseMethodDescriptor yX1_takePoint.desc).map (fun d => d.parameters.length) = some 2 := by decide +kernel
def FX1_takePoint (ns nb : Nat) (σ : Sg) (i0 : Nat) (a1 : Int32) (a2 : Int32) : Option Sg :=
  (FX1_hasPoint ns nb σ i0 a1).bind fun z1 => if z1.1 = 0 then ((FX4_put ns nb z1.2 11 i0 a1 0).bind fun z3 => (FX1_draw ns nb z3 i0 a2).bind fun z4 => some z4) else ((FX4_put ns nb (sI z1.2 10 i0 2 ((z1.2.1 10 i0 2) - 1)) 11 i0 a1 0).bind fun z5 => (FX1_draw ns nb z5 i0 a2).bind fun z6 => some z6)
set_option maxHeartbeats 4000000 in
set_option maxRecDepth 100000 in
theorem kX1_takePoint (l : Launch) (lo : Nat) (g : Gx) (h : Sh) (σ : Sg) (i0 : Nat) (a1 : Int32) (a2 : Int32) (hi0 : i0 < 3 * h.2.1) (σ1 : Sg) (hF : FX1_takePoint h.1 h.2.1 σ i0 a1 a2 = some σ1) : MV l yX1_takePoint (ws_ yX1_takePoint cX1_takePoint 3 none) 4 90 0 0 lo g h [.ref (h.2.2 10 i0), .int a1, .int a2] σ σ1 := by
  refine ofB (own := RX1) (by decide +kernel) rfl (fun p e s m below meth c C0 hr hlk hlo hK hZ hW hS ls hl => ?_) (Nat.le_of_ble_eq_true rfl)
  have hx := C0.1
  have hb := C0.2.1
  have hl : lv_has ls 3 [(0, .ref (h.2.2 10 i0)), (1, .int a1), (2, .int a2)] := hl
  unfold FX1_takePoint at hF
  refine lv_aload_n hx hb dX1_takePoint_0 rfl (lv_at hl 0 rfl) ?_
  refine lv_iload_n hx hb dX1_takePoint_1 rfl (lv_at hl 1 rfl) ?_
  obtain ⟨z1, hz1, hF⟩ := bnd hF
  refine inI (runV C0 hlo hK hZ hW hS (kX1_hasPoint l lo g h _ i0 a1 hi0 _ _ hz1) wCO_X1_hasPoint wML_X1_22 wIM_X1_hasPoint wSE_X1_X1_hasPoint wIN_X1 hdX1_hasPoint ⟨Nat.le_of_ble_eq_true rfl, Nat.le_of_ble_eq_true rfl⟩ (recvK hK hW (al10 10 hi0 (by decide)) (ct10 i0) rfl) rfl hl.1 rfl (Nat.le_of_ble_eq_true rfl) dX1_takePoint_2 ⟨Nat.le_of_ble_eq_true rfl, Nat.le_of_ble_eq_true rfl⟩) hS (fun H locs hW hS => ?_)
  refine lv_if_eq (tgt := 18) hx hb dX1_takePoint_5 (by decide) (fun c2 => ?_) (fun c2 => ?_)
  · rw [if_pos c2] at hF
    refine lv_aload_n hx hb dX1_takePoint_18 rfl (lv_at hl 0 rfl) ?_
    refine get10 C0 hK hW i0 (al10 10 hi0 (by decide)) 0 (by decide) wFL_X1_9 rfl rfl dX1_takePoint_19 ?_
    refine lv_iload_n hx hb dX1_takePoint_22 rfl (lv_at hl 1 rfl) ?_
    refine lv_iconst (v := 0) hx hb dX1_takePoint_23 (by decide) ?_
    obtain ⟨z3, hz3, hF⟩ := bnd hF
    refine inV (runN (host := "BirdParlour") C0 hlo hK hZ hW hS (kX4_put l lo g h _ 11 i0 a1 0 (al10 11 hi0 (by decide)) (by decide) _ hz3) wCO_X4_put (by decide +kernel) wST_X4_put wIN_X4 hdsX4_put ⟨Nat.le_of_ble_eq_true rfl, Nat.le_of_ble_eq_true rfl⟩ rfl hl.1 rfl (Nat.le_of_ble_eq_true rfl) dX1_takePoint_24 ⟨Nat.le_of_ble_eq_true rfl, Nat.le_of_ble_eq_true rfl⟩) hS (fun H locs hW hS => ?_)
    refine lv_aload_n hx hb dX1_takePoint_27 rfl (lv_at hl 0 rfl) ?_
    refine lv_iload_n hx hb dX1_takePoint_28 rfl (lv_at hl 2 rfl) ?_
    obtain ⟨z4, hz4, hF⟩ := bnd hF
    refine inV (runV C0 hlo hK hZ hW hS (kX1_draw l lo g h _ i0 a2 hi0 _ hz4) wCO_X1_draw wML_X1_34 wIM_X1_draw wSE_X1_X1_draw wIN_X1 hdX1_draw ⟨Nat.le_of_ble_eq_true rfl, Nat.le_of_ble_eq_true rfl⟩ (recvK hK hW (al10 10 hi0 (by decide)) (ct10 i0) rfl) rfl hl.1 rfl (Nat.le_of_ble_eq_true rfl) dX1_takePoint_29 ⟨Nat.le_of_ble_eq_true rfl, Nat.le_of_ble_eq_true rfl⟩) hS (fun H locs hW hS => ?_)
    cases hF
    exact retV C0 hr hlk hW hS dX1_takePoint_32
  · rw [if_neg c2] at hF
    refine lv_aload_n hx hb dX1_takePoint_8 rfl (lv_at hl 0 rfl) ?_
    refine lv_dup hx hb dX1_takePoint_9 rfl ?_
    refine get10 C0 hK hW i0 (al10 10 hi0 (by decide)) 2 (by decide) wFL_X1_26 rfl rfl dX1_takePoint_10 ?_
    refine lv_iconst (v := 1) hx hb dX1_takePoint_13 (by decide) ?_
    refine lv_isub hx hb dX1_takePoint_14 ?_
    refine put10_2 C0 hK hW hS i0 (al10 10 hi0 (by decide)) wFL_X1_26 dX1_takePoint_15 (fun H locs hW hS => ?_)
    refine lv_aload_n hx hb dX1_takePoint_18 rfl (lv_at hl 0 rfl) ?_
    refine get10 C0 hK hW i0 (al10 10 hi0 (by decide)) 0 (by decide) wFL_X1_9 rfl rfl dX1_takePoint_19 ?_
    refine lv_iload_n hx hb dX1_takePoint_22 rfl (lv_at hl 1 rfl) ?_
    refine lv_iconst (v := 0) hx hb dX1_takePoint_23 (by decide) ?_
    obtain ⟨z5, hz5, hF⟩ := bnd hF
    refine inV (runN (host := "BirdParlour") C0 hlo hK hZ hW hS (kX4_put l lo g h _ 11 i0 a1 0 (al10 11 hi0 (by decide)) (by decide) _ hz5) wCO_X4_put (by decide +kernel) wST_X4_put wIN_X4 hdsX4_put ⟨Nat.le_of_ble_eq_true rfl, Nat.le_of_ble_eq_true rfl⟩ rfl hl.1 rfl (Nat.le_of_ble_eq_true rfl) dX1_takePoint_24 ⟨Nat.le_of_ble_eq_true rfl, Nat.le_of_ble_eq_true rfl⟩) hS (fun H locs hW hS => ?_)
    refine lv_aload_n hx hb dX1_takePoint_27 rfl (lv_at hl 0 rfl) ?_
    refine lv_iload_n hx hb dX1_takePoint_28 rfl (lv_at hl 2 rfl) ?_
    obtain ⟨z6, hz6, hF⟩ := bnd hF
    refine inV (runV C0 hlo hK hZ hW hS (kX1_draw l lo g h _ i0 a2 hi0 _ hz6) wCO_X1_draw wML_X1_34 wIM_X1_draw wSE_X1_X1_draw wIN_X1 hdX1_draw ⟨Nat.le_of_ble_eq_true rfl, Nat.le_of_ble_eq_true rfl⟩ (recvK hK hW (al10 10 hi0 (by decide)) (ct10 i0) rfl) rfl hl.1 rfl (Nat.le_of_ble_eq_true rfl) dX1_takePoint_29 ⟨Nat.le_of_ble_eq_true rfl, Nat.le_of_ble_eq_true rfl⟩) hS (fun H locs hW hS => ?_)
    cases hF
    exact retV C0 hr hlk hW hS dX1_takePoint_32
theorem hdX0_isDrivenBy : yX0_isDrivenBy.cls = RX0 ∧ yX0_isDrivenBy.cls ≠ "java/lang/invoke/MethodHandle" ∧ yX0_isDrivenBy.cls ≠ "java/lang/invoke/VarHandle" ∧ (parseMethodDescriptor yX0_isDrivenBy.desc).map (fun d => d.parameters.length) = some 1 := by decide +kernel
def FX0_isDrivenBy (ns nb : Nat) (σ : Sg) (i0 : Nat) (a1 : Int32) : Option (Int32 × Sg) :=
  if (σ.1 6 i0 9) = 0 then (some (0, σ)) else (if (σ.1 6 i0 0) = a1 then (some (1, σ)) else (some (0, σ)))
set_option maxHeartbeats 4000000 in
set_option maxRecDepth 100000 in
theorem kX0_isDrivenBy (l : Launch) (lo : Nat) (g : Gx) (h : Sh) (σ : Sg) (i0 : Nat) (a1 : Int32) (hi0 : i0 < h.2.1) (r : Int32) (σ1 : Sg) (hF : FX0_isDrivenBy h.1 h.2.1 σ i0 a1 = some (r, σ1)) : MI l yX0_isDrivenBy (ws_ yX0_isDrivenBy cX0_isDrivenBy 2 (some .boolean)) 0 0 0 0 lo g h [.ref (h.2.2 6 i0), .int a1] σ r σ1 := by
  refine ofB (own := RX0) (by decide +kernel) rfl (fun p e s m below meth c C0 hr hlk hlo hK hZ hW hS ls hl => ?_) (Nat.le_of_ble_eq_true rfl)
  have hx := C0.1
  have hb := C0.2.1
  have hl : lv_has ls 2 [(0, .ref (h.2.2 6 i0)), (1, .int a1)] := hl
  unfold FX0_isDrivenBy at hF
  refine lv_aload_n hx hb dX0_isDrivenBy_0 rfl (lv_at hl 0 rfl) ?_
  refine get6 C0 hK hW i0 (al6 6 hi0 (by decide)) 9 (by decide) wFL_X0_40 rfl rfl dX0_isDrivenBy_1 ?_
  refine lv_if_eq (tgt := 19) hx hb dX0_isDrivenBy_4 (by decide) (fun c1 => ?_) (fun c1 => ?_)
  · rw [if_pos c1] at hF
    refine lv_iconst (v := 0) hx hb dX0_isDrivenBy_19 (by decide) ?_
    cases hF
    exact retZ C0 hr hlk (Or.inl rfl) hW hS dX0_isDrivenBy_20
  · rw [if_neg c1] at hF
    refine lv_aload_n hx hb dX0_isDrivenBy_7 rfl (lv_at hl 0 rfl) ?_
    refine get6 C0 hK hW i0 (al6 6 hi0 (by decide)) 0 (by decide) wFL_X0_24 rfl rfl dX0_isDrivenBy_8 ?_
    refine lv_iload_n hx hb dX0_isDrivenBy_11 rfl (lv_at hl 1 rfl) ?_
    refine lv_icmp_ne (tgt := 19) hx hb dX0_isDrivenBy_12 (by decide) (fun c2 => ?_) (fun c2 => ?_)
    · rw [if_neg c2] at hF
      refine lv_iconst (v := 0) hx hb dX0_isDrivenBy_19 (by decide) ?_
      cases hF
      exact retZ C0 hr hlk (Or.inl rfl) hW hS dX0_isDrivenBy_20
    · rw [if_pos c2] at hF
      refine lv_iconst (v := 1) hx hb dX0_isDrivenBy_15 (by decide) ?_
      refine lv_goto (tgt := 20) hx hb dX0_isDrivenBy_16 (by decide) ?_
      cases hF
      exact retZ C0 hr hlk (Or.inr rfl) hW hS dX0_isDrivenBy_20
theorem hdX0_goneWhen : yX0_goneWhen.cls = RX0 ∧ yX0_goneWhen.cls ≠ "java/lang/invoke/MethodHandle" ∧ yX0_goneWhen.cls ≠ "java/lang/invoke/VarHandle" ∧ (parseMethodDescriptor yX0_goneWhen.desc).map (fun d => d.parameters.length) = some 1 := by decide +kernel
def FX0_goneWhen (ns nb : Nat) (σ : Sg) (i0 : Nat) (a1 : Int64) : Option (Int64 × Sg) :=
  if (lg_cmp (1000 * ((σ.1 6 i0 4).toInt64)) 0) ≤ 0 then (some (0, σ)) else (if (1000 * ((σ.1 6 i0 4).toInt64)) = 0 then none else (some ((((a1 - (σ.2 6 i0 10)) * ((σ.1 6 i0 3).toInt64)) * ((σ.1 6 i0 2).toInt64)) / (1000 * ((σ.1 6 i0 4).toInt64)), σ)))
set_option maxHeartbeats 4000000 in
set_option maxRecDepth 100000 in
theorem kX0_goneWhen (l : Launch) (lo : Nat) (g : Gx) (h : Sh) (σ : Sg) (i0 : Nat) (a1 : Int64) (hi0 : i0 < h.2.1) (r : Int64) (σ1 : Sg) (hF : FX0_goneWhen h.1 h.2.1 σ i0 a1 = some (r, σ1)) : ML l yX0_goneWhen (ws_ yX0_goneWhen cX0_goneWhen 5 (some .long)) 0 0 0 0 lo g h [.ref (h.2.2 6 i0), .long a1] σ r σ1 := by
  refine ofB (own := RX0) (by decide +kernel) rfl (fun p e s m below meth c C0 hr hlk hlo hK hZ hW hS ls hl => ?_) (Nat.le_of_ble_eq_true rfl)
  have hx := C0.1
  have hb := C0.2.1
  have hl : lv_has ls 5 [(0, .ref (h.2.2 6 i0)), (1, .long a1)] := hl
  unfold FX0_goneWhen at hF
  refine lv_ldc2 hx hb C0.2.2.2.1 (C0.2.2.2.2 _ wconstantLong_X0_61) dX0_goneWhen_0 ?_
  refine lv_aload_n hx hb dX0_goneWhen_3 rfl (lv_at hl 0 rfl) ?_
  refine get6 C0 hK hW i0 (al6 6 hi0 (by decide)) 4 (by decide) wFL_X0_37 rfl rfl dX0_goneWhen_4 ?_
  refine lv_i2l hx hb dX0_goneWhen_7 rfl ?_
  refine lv_lmul hx hb dX0_goneWhen_8 ?_
  refine lv_lstore_n (lv' := [(3, .long (1000 * ((σ.1 6 i0 4).toInt64))), (0, .ref (h.2.2 6 i0)), (1, .long a1)]) hx hb dX0_goneWhen_9 rfl hl (by decide) rfl (fun ls hl => ?_)
  refine lv_lload_n hx hb dX0_goneWhen_10 rfl (lv_at hl 0 rfl) ?_
  refine lv_lconst (v := 0) hx hb dX0_goneWhen_11 (by decide) ?_
  refine W.lcmp hx hb dX0_goneWhen_12 ?_
  refine lv_if_le (tgt := 39) hx hb dX0_goneWhen_13 (by decide) (fun c1 => ?_) (fun c1 => ?_)
  · rw [if_pos c1] at hF
    refine lv_lconst (v := 0) hx hb dX0_goneWhen_39 (by decide) ?_
    cases hF
    exact retL C0 hr hlk hW hS dX0_goneWhen_40
  · rw [if_neg c1] at hF
    refine lv_lload_n hx hb dX0_goneWhen_16 rfl (lv_at hl 2 rfl) ?_
    refine lv_aload_n hx hb dX0_goneWhen_17 rfl (lv_at hl 1 rfl) ?_
    refine get6 C0 hK hW i0 (al6 6 hi0 (by decide)) 10 (by decide) wFL_X0_44 rfl rfl dX0_goneWhen_18 ?_
    refine lv_lsub hx hb dX0_goneWhen_21 ?_
    refine lv_aload_n hx hb dX0_goneWhen_22 rfl (lv_at hl 1 rfl) ?_
    refine get6 C0 hK hW i0 (al6 6 hi0 (by decide)) 3 (by decide) wFL_X0_34 rfl rfl dX0_goneWhen_23 ?_
    refine lv_i2l hx hb dX0_goneWhen_26 rfl ?_
    refine lv_lmul hx hb dX0_goneWhen_27 ?_
    refine lv_aload_n hx hb dX0_goneWhen_28 rfl (lv_at hl 1 rfl) ?_
    refine get6 C0 hK hW i0 (al6 6 hi0 (by decide)) 2 (by decide) wFL_X0_31 rfl rfl dX0_goneWhen_29 ?_
    refine lv_i2l hx hb dX0_goneWhen_32 rfl ?_
    refine lv_lmul hx hb dX0_goneWhen_33 ?_
    refine lv_lload_n hx hb dX0_goneWhen_34 rfl (lv_at hl 0 rfl) ?_
    obtain ⟨hg, hF⟩ := grd hF
    refine lv_ldiv hx hb dX0_goneWhen_35 hg ?_
    refine lv_goto (tgt := 40) hx hb dX0_goneWhen_36 (by decide) ?_
    cases hF
    exact retL C0 hr hlk hW hS dX0_goneWhen_40
theorem hdX0_placeWhenGone : yX0_placeWhenGone.cls = RX0 ∧ yX0_placeWhenGone.cls ≠ "java/lang/invoke/MethodHandle" ∧ yX0_placeWhenGone.cls ≠ "java/lang/invoke/VarHandle" ∧ (parseMethodDescriptor yX0_placeWhenGone.desc).map (fun d => d.parameters.length) = some 1 := by decide +kernel
def FX0_placeWhenGone (ns nb : Nat) (σ : Sg) (i0 : Nat) (a1 : Int64) : Option (Int32 × Sg) :=
  if (σ.1 6 i0 2) ≤ 0 then (some (0, σ)) else (if ((σ.1 6 i0 2).toInt64) = 0 then none else (some ((a1 - a1 / ((σ.1 6 i0 2).toInt64) * ((σ.1 6 i0 2).toInt64)).toInt32, σ)))
set_option maxHeartbeats 4000000 in
set_option maxRecDepth 100000 in
theorem kX0_placeWhenGone (l : Launch) (lo : Nat) (g : Gx) (h : Sh) (σ : Sg) (i0 : Nat) (a1 : Int64) (hi0 : i0 < h.2.1) (r : Int32) (σ1 : Sg) (hF : FX0_placeWhenGone h.1 h.2.1 σ i0 a1 = some (r, σ1)) : MI l yX0_placeWhenGone (ws_ yX0_placeWhenGone cX0_placeWhenGone 3 (some .int)) 0 0 0 0 lo g h [.ref (h.2.2 6 i0), .long a1] σ r σ1 := by
  refine ofB (own := RX0) (by decide +kernel) rfl (fun p e s m below meth c C0 hr hlk hlo hK hZ hW hS ls hl => ?_) (Nat.le_of_ble_eq_true rfl)
  have hx := C0.1
  have hb := C0.2.1
  have hl : lv_has ls 3 [(0, .ref (h.2.2 6 i0)), (1, .long a1)] := hl
  unfold FX0_placeWhenGone at hF
  refine lv_aload_n hx hb dX0_placeWhenGone_0 rfl (lv_at hl 0 rfl) ?_
  refine get6 C0 hK hW i0 (al6 6 hi0 (by decide)) 2 (by decide) wFL_X0_31 rfl rfl dX0_placeWhenGone_1 ?_
  refine lv_if_le (tgt := 18) hx hb dX0_placeWhenGone_4 (by decide) (fun c1 => ?_) (fun c1 => ?_)
  · rw [if_pos c1] at hF
    refine lv_iconst (v := 0) hx hb dX0_placeWhenGone_18 (by decide) ?_
    cases hF
    exact retI C0 hr hlk hW hS dX0_placeWhenGone_19
  · rw [if_neg c1] at hF
    refine lv_lload_n hx hb dX0_placeWhenGone_7 rfl (lv_at hl 1 rfl) ?_
    refine lv_aload_n hx hb dX0_placeWhenGone_8 rfl (lv_at hl 0 rfl) ?_
    refine get6 C0 hK hW i0 (al6 6 hi0 (by decide)) 2 (by decide) wFL_X0_31 rfl rfl dX0_placeWhenGone_9 ?_
    refine lv_i2l hx hb dX0_placeWhenGone_12 rfl ?_
    obtain ⟨hg, hF⟩ := grd hF
    refine lv_lrem hx hb dX0_placeWhenGone_13 hg ?_
    refine lv_l2i hx hb dX0_placeWhenGone_14 rfl ?_
    refine lv_goto (tgt := 19) hx hb dX0_placeWhenGone_15 (by decide) ?_
    cases hF
    exact retI C0 hr hlk hW hS dX0_placeWhenGone_19
theorem hdX0_placeNow : yX0_placeNow.cls = RX0 ∧ yX0_placeNow.cls ≠ "java/lang/invoke/MethodHandle" ∧ yX0_placeNow.cls ≠ "java/lang/invoke/VarHandle" ∧ (parseMethodDescriptor yX0_placeNow.desc).map (fun d => d.parameters.length) = some 0 := by decide +kernel
def FX0_placeNow (ns nb : Nat) (σ : Sg) (i0 : Nat) : Option (Int32 × Sg) :=
  (FX0_placeWhenGone ns nb σ i0 (σ.2 6 i0 11)).bind fun z1 => some (z1.1, z1.2)
set_option maxHeartbeats 4000000 in
set_option maxRecDepth 100000 in
theorem kX0_placeNow (l : Launch) (lo : Nat) (g : Gx) (h : Sh) (σ : Sg) (i0 : Nat) (hi0 : i0 < h.2.1) (r : Int32) (σ1 : Sg) (hF : FX0_placeNow h.1 h.2.1 σ i0 = some (r, σ1)) : MI l yX0_placeNow (ws_ yX0_placeNow cX0_placeNow 1 (some .int)) 1 22 0 0 lo g h [.ref (h.2.2 6 i0)] σ r σ1 := by
  refine ofB (own := RX0) (by decide +kernel) rfl (fun p e s m below meth c C0 hr hlk hlo hK hZ hW hS ls hl => ?_) (Nat.le_of_ble_eq_true rfl)
  have hx := C0.1
  have hb := C0.2.1
  have hl : lv_has ls 1 [(0, .ref (h.2.2 6 i0))] := hl
  unfold FX0_placeNow at hF
  refine lv_aload_n hx hb dX0_placeNow_0 rfl (lv_at hl 0 rfl) ?_
  refine lv_aload_n hx hb dX0_placeNow_1 rfl (lv_at hl 0 rfl) ?_
  refine get6 C0 hK hW i0 (al6 6 hi0 (by decide)) 11 (by decide) wFL_X0_49 rfl rfl dX0_placeNow_2 ?_
  obtain ⟨z1, hz1, hF⟩ := bnd hF
  refine inI (runV C0 hlo hK hZ hW hS (kX0_placeWhenGone l lo g h _ i0 (σ.2 6 i0 11) hi0 _ _ hz1) wCO_X0_placeWhenGone wML_X0_63 wIM_X0_placeWhenGone wSE_X0_X0_placeWhenGone wIN_X0 hdX0_placeWhenGone ⟨Nat.le_of_ble_eq_true rfl, Nat.le_of_ble_eq_true rfl⟩ (recvK hK hW (al6 6 hi0 (by decide)) (ct6 i0) rfl) rfl hl.1 rfl (Nat.le_of_ble_eq_true rfl) dX0_placeNow_5 ⟨Nat.le_of_ble_eq_true rfl, Nat.le_of_ble_eq_true rfl⟩) hS (fun H locs hW hS => ?_)
  cases hF
  exact retI C0 hr hlk hW hS dX0_placeNow_8
theorem hdX0_hasPlace : yX0_hasPlace.cls = RX0 ∧ yX0_hasPlace.cls ≠ "java/lang/invoke/MethodHandle" ∧ yX0_hasPlace.cls ≠ "java/lang/invoke/VarHandle" ∧ (parseMethodDescriptor yX0_hasPlace.desc).map (fun d => d.parameters.length) = some 1 := by decide +kernel
def FX0_hasPlace (ns nb : Nat) (σ : Sg) (i0 : Nat) (a1 : Int32) : Option (Int32 × Sg) :=
  (FX4_isIn ns nb σ a1 0 ((σ.1 6 i0 2) - 1)).bind fun z1 => if (z1.1 = 0 ∨ z1.1 = 1) then (some (z1.1, z1.2)) else none
set_option maxHeartbeats 4000000 in
set_option maxRecDepth 100000 in
theorem kX0_hasPlace (l : Launch) (lo : Nat) (g : Gx) (h : Sh) (σ : Sg) (i0 : Nat) (a1 : Int32) (hi0 : i0 < h.2.1) (r : Int32) (σ1 : Sg) (hF : FX0_hasPlace h.1 h.2.1 σ i0 a1 = some (r, σ1)) : MI l yX0_hasPlace (ws_ yX0_hasPlace cX0_hasPlace 2 (some .boolean)) 1 22 0 0 lo g h [.ref (h.2.2 6 i0), .int a1] σ r σ1 := by
  refine ofB (own := RX0) (by decide +kernel) rfl (fun p e s m below meth c C0 hr hlk hlo hK hZ hW hS ls hl => ?_) (Nat.le_of_ble_eq_true rfl)
  have hx := C0.1
  have hb := C0.2.1
  have hl : lv_has ls 2 [(0, .ref (h.2.2 6 i0)), (1, .int a1)] := hl
  unfold FX0_hasPlace at hF
  refine lv_iload_n hx hb dX0_hasPlace_0 rfl (lv_at hl 1 rfl) ?_
  refine lv_iconst (v := 0) hx hb dX0_hasPlace_1 (by decide) ?_
  refine lv_aload_n hx hb dX0_hasPlace_2 rfl (lv_at hl 0 rfl) ?_
  refine get6 C0 hK hW i0 (al6 6 hi0 (by decide)) 2 (by decide) wFL_X0_31 rfl rfl dX0_hasPlace_3 ?_
  refine lv_iconst (v := 1) hx hb dX0_hasPlace_6 (by decide) ?_
  refine lv_isub hx hb dX0_hasPlace_7 ?_
  obtain ⟨z1, hz1, hF⟩ := bnd hF
  refine inI (runN (host := "BirdParlour") C0 hlo hK hZ hW hS (kX4_isIn l lo g h _ a1 0 ((σ.1 6 i0 2) - 1)  _ _ hz1) wCO_X4_isIn (by decide +kernel) wST_X4_isIn wIN_X4 hdsX4_isIn ⟨Nat.le_of_ble_eq_true rfl, Nat.le_of_ble_eq_true rfl⟩ rfl hl.1 rfl (Nat.le_of_ble_eq_true rfl) dX0_hasPlace_8 ⟨Nat.le_of_ble_eq_true rfl, Nat.le_of_ble_eq_true rfl⟩) hS (fun H locs hW hS => ?_)
  obtain ⟨hz, hF⟩ := grp hF
  cases hF
  exact retZ C0 hr hlk hz hW hS dX0_hasPlace_11
theorem hdX0_hasPin : yX0_hasPin.cls = RX0 ∧ yX0_hasPin.cls ≠ "java/lang/invoke/MethodHandle" ∧ yX0_hasPin.cls ≠ "java/lang/invoke/VarHandle" ∧ (parseMethodDescriptor yX0_hasPin.desc).map (fun d => d.parameters.length) = some 2 := by decide +kernel
def FX0_hasPin (ns nb : Nat) (σ : Sg) (i0 : Nat) (a1 : Int32) (a2 : Int32) : Option (Int32 × Sg) :=
  (FX4_at ns nb σ 7 i0 a1).bind fun z1 => if ((z1.1 >>> (a2 &&& 31)) &&& 1) = 1 then (some (1, z1.2)) else (some (0, z1.2))
set_option maxHeartbeats 4000000 in
set_option maxRecDepth 100000 in
theorem kX0_hasPin (l : Launch) (lo : Nat) (g : Gx) (h : Sh) (σ : Sg) (i0 : Nat) (a1 : Int32) (a2 : Int32) (hi0 : i0 < h.2.1) (r : Int32) (σ1 : Sg) (hF : FX0_hasPin h.1 h.2.1 σ i0 a1 a2 = some (r, σ1)) : MI l yX0_hasPin (ws_ yX0_hasPin cX0_hasPin 3 (some .boolean)) 1 21 0 0 lo g h [.ref (h.2.2 6 i0), .int a1, .int a2] σ r σ1 := by
  refine ofB (own := RX0) (by decide +kernel) rfl (fun p e s m below meth c C0 hr hlk hlo hK hZ hW hS ls hl => ?_) (Nat.le_of_ble_eq_true rfl)
  have hx := C0.1
  have hb := C0.2.1
  have hl : lv_has ls 3 [(0, .ref (h.2.2 6 i0)), (1, .int a1), (2, .int a2)] := hl
  unfold FX0_hasPin at hF
  refine lv_aload_n hx hb dX0_hasPin_0 rfl (lv_at hl 0 rfl) ?_
  refine get6 C0 hK hW i0 (al6 6 hi0 (by decide)) 5 (by decide) wFL_X0_9 rfl rfl dX0_hasPin_1 ?_
  refine lv_iload_n hx hb dX0_hasPin_4 rfl (lv_at hl 1 rfl) ?_
  obtain ⟨z1, hz1, hF⟩ := bnd hF
  refine inI (runN (host := "BirdParlour") C0 hlo hK hZ hW hS (kX4_at l lo g h _ 7 i0 a1 (al6 7 hi0 (by decide)) (by decide) _ _ hz1) wCO_X4_at (by decide +kernel) wST_X4_at wIN_X4 hdsX4_at ⟨Nat.le_of_ble_eq_true rfl, Nat.le_of_ble_eq_true rfl⟩ rfl hl.1 rfl (Nat.le_of_ble_eq_true rfl) dX0_hasPin_5 ⟨Nat.le_of_ble_eq_true rfl, Nat.le_of_ble_eq_true rfl⟩) hS (fun H locs hW hS => ?_)
  refine lv_iload_n hx hb dX0_hasPin_8 rfl (lv_at hl 2 rfl) ?_
  refine lv_ishr hx hb dX0_hasPin_9 ?_
  refine lv_iconst (v := 1) hx hb dX0_hasPin_10 (by decide) ?_
  refine lv_iand hx hb dX0_hasPin_11 ?_
  refine lv_iconst (v := 1) hx hb dX0_hasPin_12 (by decide) ?_
  refine lv_icmp_ne (tgt := 20) hx hb dX0_hasPin_13 (by decide) (fun c2 => ?_) (fun c2 => ?_)
  · rw [if_neg c2] at hF
    refine lv_iconst (v := 0) hx hb dX0_hasPin_20 (by decide) ?_
    cases hF
    exact retZ C0 hr hlk (Or.inl rfl) hW hS dX0_hasPin_21
  · rw [if_pos c2] at hF
    refine lv_iconst (v := 1) hx hb dX0_hasPin_16 (by decide) ?_
    refine lv_goto (tgt := 21) hx hb dX0_hasPin_17 (by decide) ?_
    cases hF
    exact retZ C0 hr hlk (Or.inr rfl) hW hS dX0_hasPin_21
theorem hdX0_turnPin : yX0_turnPin.cls = RX0 ∧ yX0_turnPin.cls ≠ "java/lang/invoke/MethodHandle" ∧ yX0_turnPin.cls ≠ "java/lang/invoke/VarHandle" ∧ (parseMethodDescriptor yX0_turnPin.desc).map (fun d => d.parameters.length) = some 2 := by decide +kernel
def FX0_turnPin (ns nb : Nat) (σ : Sg) (i0 : Nat) (a1 : Int32) (a2 : Int32) : Option Sg :=
  (FX0_hasPin ns nb σ i0 a1 a2).bind fun z1 => if z1.1 = 0 then ((FX4_at ns nb (sI z1.2 6 i0 8 ((σ.1 6 i0 8) + 1)) 7 i0 a1).bind fun z3 => (FX4_put ns nb z3.2 7 i0 a1 (z3.1 ^^^ (1 <<< (a2 &&& 31)))).bind fun z4 => some z4) else ((FX4_at ns nb (sI z1.2 6 i0 8 ((σ.1 6 i0 8) + (-1))) 7 i0 a1).bind fun z5 => (FX4_put ns nb z5.2 7 i0 a1 (z5.1 ^^^ (1 <<< (a2 &&& 31)))).bind fun z6 => some z6)
set_option maxHeartbeats 4000000 in
set_option maxRecDepth 100000 in
theorem kX0_turnPin (l : Launch) (lo : Nat) (g : Gx) (h : Sh) (σ : Sg) (i0 : Nat) (a1 : Int32) (a2 : Int32) (hi0 : i0 < h.2.1) (σ1 : Sg) (hF : FX0_turnPin h.1 h.2.1 σ i0 a1 a2 = some σ1) : MV l yX0_turnPin (ws_ yX0_turnPin cX0_turnPin 3 none) 2 43 0 0 lo g h [.ref (h.2.2 6 i0), .int a1, .int a2] σ σ1 := by
  refine ofB (own := RX0) (by decide +kernel) rfl (fun p e s m below meth c C0 hr hlk hlo hK hZ hW hS ls hl => ?_) (Nat.le_of_ble_eq_true rfl)
  have hx := C0.1
  have hb := C0.2.1
  have hl : lv_has ls 3 [(0, .ref (h.2.2 6 i0)), (1, .int a1), (2, .int a2)] := hl
  unfold FX0_turnPin at hF
  refine lv_aload_n hx hb dX0_turnPin_0 rfl (lv_at hl 0 rfl) ?_
  refine lv_dup hx hb dX0_turnPin_1 rfl ?_
  refine get6 C0 hK hW i0 (al6 6 hi0 (by decide)) 8 (by decide) wFL_X0_75 rfl rfl dX0_turnPin_2 ?_
  refine lv_aload_n hx hb dX0_turnPin_5 rfl (lv_at hl 0 rfl) ?_
  refine lv_iload_n hx hb dX0_turnPin_6 rfl (lv_at hl 1 rfl) ?_
  refine lv_iload_n hx hb dX0_turnPin_7 rfl (lv_at hl 2 rfl) ?_
  obtain ⟨z1, hz1, hF⟩ := bnd hF
  refine inI (runV C0 hlo hK hZ hW hS (kX0_hasPin l lo g h _ i0 a1 a2 hi0 _ _ hz1) wCO_X0_hasPin wML_X0_78 wIM_X0_hasPin wSE_X0_X0_hasPin wIN_X0 hdX0_hasPin ⟨Nat.le_of_ble_eq_true rfl, Nat.le_of_ble_eq_true rfl⟩ (recvK hK hW (al6 6 hi0 (by decide)) (ct6 i0) rfl) rfl hl.1 rfl (Nat.le_of_ble_eq_true rfl) dX0_turnPin_8 ⟨Nat.le_of_ble_eq_true rfl, Nat.le_of_ble_eq_true rfl⟩) hS (fun H locs hW hS => ?_)
  refine lv_if_eq (tgt := 18) hx hb dX0_turnPin_11 (by decide) (fun c2 => ?_) (fun c2 => ?_)
  · rw [if_pos c2] at hF
    refine lv_iconst (v := 1) hx hb dX0_turnPin_18 (by decide) ?_
    refine lv_iadd hx hb dX0_turnPin_19 ?_
    refine put6_8 C0 hK hW hS i0 (al6 6 hi0 (by decide)) wFL_X0_75 dX0_turnPin_20 (fun H locs hW hS => ?_)
    refine lv_aload_n hx hb dX0_turnPin_23 rfl (lv_at hl 0 rfl) ?_
    refine get6 C0 hK hW i0 (al6 6 hi0 (by decide)) 5 (by decide) wFL_X0_9 rfl rfl dX0_turnPin_24 ?_
    refine lv_iload_n hx hb dX0_turnPin_27 rfl (lv_at hl 1 rfl) ?_
    refine lv_aload_n hx hb dX0_turnPin_28 rfl (lv_at hl 0 rfl) ?_
    refine get6 C0 hK hW i0 (al6 6 hi0 (by decide)) 5 (by decide) wFL_X0_9 rfl rfl dX0_turnPin_29 ?_
    refine lv_iload_n hx hb dX0_turnPin_32 rfl (lv_at hl 1 rfl) ?_
    obtain ⟨z3, hz3, hF⟩ := bnd hF
    refine inI (runN (host := "BirdParlour") C0 hlo hK hZ hW hS (kX4_at l lo g h _ 7 i0 a1 (al6 7 hi0 (by decide)) (by decide) _ _ hz3) wCO_X4_at (by decide +kernel) wST_X4_at wIN_X4 hdsX4_at ⟨Nat.le_of_ble_eq_true rfl, Nat.le_of_ble_eq_true rfl⟩ rfl hl.1 rfl (Nat.le_of_ble_eq_true rfl) dX0_turnPin_33 ⟨Nat.le_of_ble_eq_true rfl, Nat.le_of_ble_eq_true rfl⟩) hS (fun H locs hW hS => ?_)
    refine lv_iconst (v := 1) hx hb dX0_turnPin_36 (by decide) ?_
    refine lv_iload_n hx hb dX0_turnPin_37 rfl (lv_at hl 2 rfl) ?_
    refine lv_ishl hx hb dX0_turnPin_38 ?_
    refine lv_ixor hx hb dX0_turnPin_39 ?_
    obtain ⟨z4, hz4, hF⟩ := bnd hF
    refine inV (runN (host := "BirdParlour") C0 hlo hK hZ hW hS (kX4_put l lo g h _ 7 i0 a1 (z3.1 ^^^ (1 <<< (a2 &&& 31))) (al6 7 hi0 (by decide)) (by decide) _ hz4) wCO_X4_put (by decide +kernel) wST_X4_put wIN_X4 hdsX4_put ⟨Nat.le_of_ble_eq_true rfl, Nat.le_of_ble_eq_true rfl⟩ rfl hl.1 rfl (Nat.le_of_ble_eq_true rfl) dX0_turnPin_40 ⟨Nat.le_of_ble_eq_true rfl, Nat.le_of_ble_eq_true rfl⟩) hS (fun H locs hW hS => ?_)
    cases hF
    exact retV C0 hr hlk hW hS dX0_turnPin_43
  · rw [if_neg c2] at hF
    refine lv_iconst (v := (-1)) hx hb dX0_turnPin_14 (by decide) ?_
    refine lv_goto (tgt := 19) hx hb dX0_turnPin_15 (by decide) ?_
    refine lv_iadd hx hb dX0_turnPin_19 ?_
    refine put6_8 C0 hK hW hS i0 (al6 6 hi0 (by decide)) wFL_X0_75 dX0_turnPin_20 (fun H locs hW hS => ?_)
    refine lv_aload_n hx hb dX0_turnPin_23 rfl (lv_at hl 0 rfl) ?_
    refine get6 C0 hK hW i0 (al6 6 hi0 (by decide)) 5 (by decide) wFL_X0_9 rfl rfl dX0_turnPin_24 ?_
    refine lv_iload_n hx hb dX0_turnPin_27 rfl (lv_at hl 1 rfl) ?_
    refine lv_aload_n hx hb dX0_turnPin_28 rfl (lv_at hl 0 rfl) ?_
    refine get6 C0 hK hW i0 (al6 6 hi0 (by decide)) 5 (by decide) wFL_X0_9 rfl rfl dX0_turnPin_29 ?_
    refine lv_iload_n hx hb dX0_turnPin_32 rfl (lv_at hl 1 rfl) ?_
    obtain ⟨z5, hz5, hF⟩ := bnd hF
    refine inI (runN (host := "BirdParlour") C0 hlo hK hZ hW hS (kX4_at l lo g h _ 7 i0 a1 (al6 7 hi0 (by decide)) (by decide) _ _ hz5) wCO_X4_at (by decide +kernel) wST_X4_at wIN_X4 hdsX4_at ⟨Nat.le_of_ble_eq_true rfl, Nat.le_of_ble_eq_true rfl⟩ rfl hl.1 rfl (Nat.le_of_ble_eq_true rfl) dX0_turnPin_33 ⟨Nat.le_of_ble_eq_true rfl, Nat.le_of_ble_eq_true rfl⟩) hS (fun H locs hW hS => ?_)
    refine lv_iconst (v := 1) hx hb dX0_turnPin_36 (by decide) ?_
    refine lv_iload_n hx hb dX0_turnPin_37 rfl (lv_at hl 2 rfl) ?_
    refine lv_ishl hx hb dX0_turnPin_38 ?_
    refine lv_ixor hx hb dX0_turnPin_39 ?_
    obtain ⟨z6, hz6, hF⟩ := bnd hF
    refine inV (runN (host := "BirdParlour") C0 hlo hK hZ hW hS (kX4_put l lo g h _ 7 i0 a1 (z5.1 ^^^ (1 <<< (a2 &&& 31))) (al6 7 hi0 (by decide)) (by decide) _ hz6) wCO_X4_put (by decide +kernel) wST_X4_put wIN_X4 hdsX4_put ⟨Nat.le_of_ble_eq_true rfl, Nat.le_of_ble_eq_true rfl⟩ rfl hl.1 rfl (Nat.le_of_ble_eq_true rfl) dX0_turnPin_40 ⟨Nat.le_of_ble_eq_true rfl, Nat.le_of_ble_eq_true rfl⟩) hS (fun H locs hW hS => ?_)
    cases hF
    exact retV C0 hr hlk hW hS dX0_turnPin_43
theorem hdX0_camAt : yX0_camAt.cls = RX0 ∧ yX0_camAt.cls ≠ "java/lang/invoke/MethodHandle" ∧ yX0_camAt.cls ≠ "java/lang/invoke/VarHandle" ∧ (parseMethodDescriptor yX0_camAt.desc).map (fun d => d.parameters.length) = some 1 := by decide +kernel
def FX0_camAt (ns nb : Nat) (σ : Sg) (i0 : Nat) (a1 : Int32) : Option (Option Nat × Sg) :=
  if a1 < 0 then (some (none, σ)) else (if 3 ≤ a1 then (some (none, σ)) else (if (a1 < 0 ∨ 3 ≤ a1.toNatClampNeg) then none else (some (some (3 * i0 + a1.toNatClampNeg), σ))))
set_option maxHeartbeats 4000000 in
set_option maxRecDepth 100000 in
theorem kX0_camAt (l : Launch) (lo : Nat) (g : Gx) (h : Sh) (σ : Sg) (i0 : Nat) (a1 : Int32) (hi0 : i0 < h.2.1) (r : Option Nat) (σ1 : Sg) (hF : FX0_camAt h.1 h.2.1 σ i0 a1 = some (r, σ1)) : MR l yX0_camAt (ws_ yX0_camAt cX0_camAt 2 (some (.object "BirdParlour$Cam"))) 0 0 0 0 lo g h [.ref (h.2.2 6 i0), .int a1] σ (r.map (h.2.2 10)) σ1 := by
  refine ofB (own := RX0) (by decide +kernel) rfl (fun p e s m below meth c C0 hr hlk hlo hK hZ hW hS ls hl => ?_) (Nat.le_of_ble_eq_true rfl)
  have hx := C0.1
  have hb := C0.2.1
  have hl : lv_has ls 2 [(0, .ref (h.2.2 6 i0)), (1, .int a1)] := hl
  unfold FX0_camAt at hF
  refine lv_iload_n hx hb dX0_camAt_0 rfl (lv_at hl 1 rfl) ?_
  refine lv_if_lt (tgt := 22) hx hb dX0_camAt_1 (by decide) (fun c1 => ?_) (fun c1 => ?_)
  · rw [if_pos c1] at hF
    refine lv_null hx hb dX0_camAt_22 ?_
    cases hF
    exact retR (r := none) C0 hr (Or.inl ⟨_, rfl⟩) hlk hW hS dX0_camAt_23
  · rw [if_neg c1] at hF
    refine lv_iload_n hx hb dX0_camAt_4 rfl (lv_at hl 1 rfl) ?_
    refine lv_aload_n hx hb dX0_camAt_5 rfl (lv_at hl 0 rfl) ?_
    refine get6 C0 hK hW i0 (al6 6 hi0 (by decide)) 7 (by decide) wFL_X0_20 rfl rfl dX0_camAt_6 ?_
    refine len9 C0 hK hW i0 hi0 dX0_camAt_9 ?_
    refine lv_icmp_ge (tgt := 22) hx hb dX0_camAt_10 (by decide) (fun c2 => ?_) (fun c2 => ?_)
    · rw [if_pos c2] at hF
      refine lv_null hx hb dX0_camAt_22 ?_
      cases hF
      exact retR (r := none) C0 hr (Or.inl ⟨_, rfl⟩) hlk hW hS dX0_camAt_23
    · rw [if_neg c2] at hF
      refine lv_aload_n hx hb dX0_camAt_13 rfl (lv_at hl 0 rfl) ?_
      refine get6 C0 hK hW i0 (al6 6 hi0 (by decide)) 7 (by decide) wFL_X0_20 rfl rfl dX0_camAt_14 ?_
      refine lv_iload_n hx hb dX0_camAt_17 rfl (lv_at hl 1 rfl) ?_
      obtain ⟨hg, hF⟩ := grd hF
      have hc3 := cam_lt hi0 hg
      refine ld9 C0 hK hW i0 hi0 hg dX0_camAt_18 ?_
      refine lv_goto (tgt := 23) hx hb dX0_camAt_19 (by decide) ?_
      cases hF
      exact retR (r := some (h.2.2 10 (3 * i0 + a1.toNatClampNeg))) C0 hr (Or.inl ⟨_, rfl⟩) hlk hW hS dX0_camAt_23
theorem hdX0_burden : yX0_burden.cls = RX0 ∧ yX0_burden.cls ≠ "java/lang/invoke/MethodHandle" ∧ yX0_burden.cls ≠ "java/lang/invoke/VarHandle" ∧ (parseMethodDescriptor yX0_burden.desc).map (fun d => d.parameters.length) = some 0 := by decide +kernel
def LX0_burden_19 (ns nb : Nat) (j0 : Nat) (v1 : Int32) (j3 : Nat) : Nat → Int32 → Int32 → Sg → Option (Int32 × Sg)
  | 0, _, _, _ => none
  | n + 1, v2, v5, σ => if 3 ≤ v5 then (some (v2, σ)) else (if (v5 < 0 ∨ 3 ≤ v5.toNatClampNeg) then none else ((FX4_at ns nb σ 12 (3 * j3 + v5.toNatClampNeg) v1).bind fun z4 => LX0_burden_19 ns nb j0 v1 j3 n (v2 + z4.1) (v5 + 1) z4.2))
def FX0_burden (ns nb : Nat) (σ : Sg) (i0 : Nat) : Option (Int32 × Sg) :=
  (FX0_placeNow ns nb σ i0).bind fun z1 => (LX0_burden_19 ns nb i0 z1.1 i0 4100 0 0 z1.2).bind fun z5 => some ((z5.2.1 6 i0 1) + (z5.1 / 5), z5.2)
set_option maxHeartbeats 4000000 in
set_option maxRecDepth 100000 in
theorem lX0_burden_19 {p : Program} {l : Launch} {e : Env} {s : State} {m : MethodId} {args : Array Value} {below : List Frame} {meth : Method} {c : Code} {Q : State → Prop} {lo : Nat} {g : Gx} {h : Sh} (C0 : CallFix p m c cX0_burden 7 s args wB RX0) (hlo : lo ≤ s.heap.size) (hK : KW g s) (hZ : ZW lo s s.heap) (j0 : Nat) (v1 : Int32) (j3 : Nat) (hj0 : j0 < h.2.1) (hj3 : j3 < h.2.1) : ∀ (n : Nat) (v2 : Int32) (v5 : Int32) (σ : Sg) (z : (Int32 × Sg)) (hF : LX0_burden_19 h.1 h.2.1 j0 v1 j3 n v2 v5 σ = some z) (H : Heap) (locs : List Loc) (ls : Array Slot) (hW : FW g h (Ax lo) σ H) (hS : va_S (Ax lo) s.heap H locs) (hl : lv_has ls 7 [(0, .ref (h.2.2 6 j0)), (1, .int v1), (2, .int v2), (3, .ref (h.2.2 9 j3)), (4, .int 3), (5, .int v5)]) (kk : ∀ (H : Heap) (locs : List Loc) (ls : Array Slot), FW g h (Ax lo) z.2 H → va_S (Ax lo) s.heap H locs → lv_has ls 7 [(0, .ref (h.2.2 6 j0)), (2, .int z.1)] → W p l e { frames := 2, cells := 0, slots := 0, locals := 42 } s m args below meth c H locs 0 0 Q (F0 m 55 ls [])), W p l e { frames := 2, cells := 0, slots := 0, locals := 42 } s m args below meth c H locs 0 0 Q (F0 m 19 ls []) := by
  have hx := C0.1
  have hb := C0.2.1
  intro n
  induction n with
  | zero =>
    intro v2 v5 σ z hF
    rw [LX0_burden_19] at hF
    cases hF
  | succ n ih =>
    intro v2 v5 σ z hF H locs ls hW hS hl kk
    rw [LX0_burden_19] at hF
    refine lv_iload hx hb dX0_burden_19 (lv_at hl 5 rfl) ?_
    refine lv_iload hx hb dX0_burden_21 (lv_at hl 4 rfl) ?_
    refine lv_icmp_ge (tgt := 55) hx hb dX0_burden_23 (by decide) (fun c2 => ?_) (fun c2 => ?_)
    · rw [if_pos c2] at hF
      cases hF
      exact kk _ _ _ hW hS (lv_sub hl [0, 2] rfl)
    · rw [if_neg c2] at hF
      refine lv_aload_n hx hb dX0_burden_26 rfl (lv_at hl 3 rfl) ?_
      refine lv_iload hx hb dX0_burden_27 (lv_at hl 5 rfl) ?_
      obtain ⟨hg, hF⟩ := grd hF
      have hc3 := cam_lt hj3 hg
      refine ld9 C0 hK hW j3 hj3 hg dX0_burden_29 ?_
      refine lv_astore (lv' := [(6, .ref (h.2.2 10 (3 * j3 + v5.toNatClampNeg))), (0, .ref (h.2.2 6 j0)), (1, .int v1), (2, .int v2), (3, .ref (h.2.2 9 j3)), (4, .int 3), (5, .int v5)]) hx hb dX0_burden_30 hl (by decide) rfl (fun ls hl => ?_)
      refine lv_aload hx hb dX0_burden_32 (lv_at hl 0 rfl) ?_
      refine lv_ifnull hx hb dX0_burden_34 ?_
      refine lv_iload_n hx hb dX0_burden_37 rfl (lv_at hl 3 rfl) ?_
      refine lv_aload hx hb dX0_burden_38 (lv_at hl 0 rfl) ?_
      refine get10 C0 hK hW (3 * j3 + v5.toNatClampNeg) (al10 10 hc3 (by decide)) 1 (by decide) wFL_X0_90 rfl rfl dX0_burden_40 ?_
      refine lv_iload_n hx hb dX0_burden_43 rfl (lv_at hl 2 rfl) ?_
      obtain ⟨z4, hz4, hF⟩ := bnd hF
      refine inI (runN (host := "BirdParlour") C0 hlo hK hZ hW hS (kX4_at l lo g h _ 12 (3 * j3 + v5.toNatClampNeg) v1 (al10 12 hc3 (by decide)) (by decide) _ _ hz4) wCO_X4_at (by decide +kernel) wST_X4_at wIN_X4 hdsX4_at ⟨Nat.le_of_ble_eq_true rfl, Nat.le_of_ble_eq_true rfl⟩ rfl hl.1 rfl (Nat.le_of_ble_eq_true rfl) dX0_burden_44 ⟨Nat.le_of_ble_eq_true rfl, Nat.le_of_ble_eq_true rfl⟩) hS (fun H locs hW hS => ?_)
      refine lv_iadd hx hb dX0_burden_47 ?_
      refine lv_istore_n (lv' := [(2, .int (v2 + z4.1)), (6, .ref (h.2.2 10 (3 * j3 + v5.toNatClampNeg))), (0, .ref (h.2.2 6 j0)), (1, .int v1), (3, .ref (h.2.2 9 j3)), (4, .int 3), (5, .int v5)]) hx hb dX0_burden_48 rfl hl (by decide) rfl (fun ls hl => ?_)
      refine lv_iinc (v := v5 + 1) (lv' := [(5, .int (v5 + 1)), (2, .int (v2 + z4.1)), (6, .ref (h.2.2 10 (3 * j3 + v5.toNatClampNeg))), (0, .ref (h.2.2 6 j0)), (1, .int v1), (3, .ref (h.2.2 9 j3)), (4, .int 3)]) hx hb dX0_burden_49 hl (k := 6) rfl rfl (by decide) rfl (fun ls hl => ?_)
      refine lv_goto (tgt := 19) hx hb dX0_burden_52 (by decide) ?_
      exact ih (v2 + z4.1) (v5 + 1) z4.2 z hF _ _ _ hW hS (lv_sub hl [3, 4, 1, 5, 6, 0] rfl) kk
set_option maxHeartbeats 4000000 in
set_option maxRecDepth 100000 in
theorem kX0_burden (l : Launch) (lo : Nat) (g : Gx) (h : Sh) (σ : Sg) (i0 : Nat) (hi0 : i0 < h.2.1) (r : Int32) (σ1 : Sg) (hF : FX0_burden h.1 h.2.1 σ i0 = some (r, σ1)) : MI l yX0_burden (ws_ yX0_burden cX0_burden 7 (some .int)) 2 42 0 0 lo g h [.ref (h.2.2 6 i0)] σ r σ1 := by
  refine ofB (own := RX0) (by decide +kernel) rfl (fun p e s m below meth c C0 hr hlk hlo hK hZ hW hS ls hl => ?_) (Nat.le_of_ble_eq_true rfl)
  have hx := C0.1
  have hb := C0.2.1
  have hl : lv_has ls 7 [(0, .ref (h.2.2 6 i0))] := hl
  unfold FX0_burden at hF
  refine lv_aload_n hx hb dX0_burden_0 rfl (lv_at hl 0 rfl) ?_
  obtain ⟨z1, hz1, hF⟩ := bnd hF
  refine inI (runV C0 hlo hK hZ hW hS (kX0_placeNow l lo g h _ i0 hi0 _ _ hz1) wCO_X0_placeNow wML_X0_86 wIM_X0_placeNow wSE_X0_X0_placeNow wIN_X0 hdX0_placeNow ⟨Nat.le_of_ble_eq_true rfl, Nat.le_of_ble_eq_true rfl⟩ (recvK hK hW (al6 6 hi0 (by decide)) (ct6 i0) rfl) rfl hl.1 rfl (Nat.le_of_ble_eq_true rfl) dX0_burden_1 ⟨Nat.le_of_ble_eq_true rfl, Nat.le_of_ble_eq_true rfl⟩) hS (fun H locs hW hS => ?_)
  refine lv_istore_n (lv' := [(1, .int z1.1), (0, .ref (h.2.2 6 i0))]) hx hb dX0_burden_4 rfl hl (by decide) rfl (fun ls hl => ?_)
  refine lv_iconst (v := 0) hx hb dX0_burden_5 (by decide) ?_
  refine lv_istore_n (lv' := [(2, .int 0), (1, .int z1.1), (0, .ref (h.2.2 6 i0))]) hx hb dX0_burden_6 rfl hl (by decide) rfl (fun ls hl => ?_)
  refine lv_aload_n hx hb dX0_burden_7 rfl (lv_at hl 2 rfl) ?_
  refine get6 C0 hK hW i0 (al6 6 hi0 (by decide)) 7 (by decide) wFL_X0_20 rfl rfl dX0_burden_8 ?_
  refine lv_astore_n (lv' := [(3, .ref (h.2.2 9 i0)), (2, .int 0), (1, .int z1.1), (0, .ref (h.2.2 6 i0))]) hx hb dX0_burden_11 rfl hl (by decide) rfl (fun ls hl => ?_)
  refine lv_aload_n hx hb dX0_burden_12 rfl (lv_at hl 0 rfl) ?_
  refine len9 C0 hK hW i0 hi0 dX0_burden_13 ?_
  refine lv_istore (lv' := [(4, .int 3), (3, .ref (h.2.2 9 i0)), (2, .int 0), (1, .int z1.1), (0, .ref (h.2.2 6 i0))]) hx hb dX0_burden_14 hl (by decide) rfl (fun ls hl => ?_)
  refine lv_iconst (v := 0) hx hb dX0_burden_16 (by decide) ?_
  refine lv_istore (lv' := [(5, .int 0), (4, .int 3), (3, .ref (h.2.2 9 i0)), (2, .int 0), (1, .int z1.1), (0, .ref (h.2.2 6 i0))]) hx hb dX0_burden_17 hl (by decide) rfl (fun ls hl => ?_)
  obtain ⟨z5, hz5, hF⟩ := bnd hF
  refine lX0_burden_19 C0 hlo hK hZ i0 z1.1 i0 hi0 hi0 _ 0 0 _ z5 hz5 _ _ _ hW hS (lv_sub hl [5, 4, 3, 2, 1, 0] rfl) (fun H locs ls hW hS hl => ?_)
  refine lv_aload_n hx hb dX0_burden_55 rfl (lv_at hl 0 rfl) ?_
  refine get6 C0 hK hW i0 (al6 6 hi0 (by decide)) 1 (by decide) wFL_X0_28 rfl rfl dX0_burden_56 ?_
  refine lv_iload_n hx hb dX0_burden_59 rfl (lv_at hl 1 rfl) ?_
  refine lv_iconst (v := 5) hx hb dX0_burden_60 (by decide) ?_
  refine lv_idiv hx hb dX0_burden_61 (by decide) ?_
  refine lv_iadd hx hb dX0_burden_62 ?_
  cases hF
  exact retI C0 hr hlk hW hS dX0_burden_63
