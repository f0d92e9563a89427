theorem hdsJ9_floorDiv_7cf53 : yJ9_floorDiv_7cf53.cls ≠ "java/lang/invoke/MethodHandle" ∧ yJ9_floorDiv_7cf53.cls ≠ "java/lang/invoke/VarHandle" ∧ (parseMethodDescriptor yJ9_floorDiv_7cf53.desc).map (fun d => d.parameters.length) = some 2 := by decide +kernel
def FJ9_floorDiv_7cf53 (ns nb : Nat) (σ : Sg) (a0 : Int32) (a1 : Int32) : Option (Int32 × Sg) :=
  if a1 = 0 then none else (if 0 ≤ (a0 ^^^ a1) then (some (a0 / a1, σ)) else (if ((a0 / a1) * a1) = a0 then (some (a0 / a1, σ)) else (some ((a0 / a1) - 1, σ))))
set_option maxHeartbeats 4000000 in
set_option maxRecDepth 100000 in
theorem kJ9_floorDiv_7cf53 (l : Launch) (lo : Nat) (g : Gx) (h : Sh) (σ : Sg) (a0 : Int32) (a1 : Int32)  (r : Int32) (σ1 : Sg) (hF : FJ9_floorDiv_7cf53 h.1 h.2.1 σ a0 a1 = some (r, σ1)) : MI l yJ9_floorDiv_7cf53 (ws_ yJ9_floorDiv_7cf53 cJ9_floorDiv_7cf53 3 (some .int)) 0 0 0 0 lo g h [.int a0, .int a1] σ r σ1 := by
  refine ofBF (own := RJ9) (by decide +kernel) rfl (fun p e s m below meth c C0 hr hlk hlo hK hZ hW hS ls hl => ?_) (Nat.le_of_ble_eq_true rfl)
  have hx := C0.1
  have hb := C0.2.1
  have hl : lv_has ls 3 [(0, .int a0), (1, .int a1)] := hl
  unfold FJ9_floorDiv_7cf53 at hF
  refine lv_iload_n hx hb dJ9_floorDiv_7cf53_0 rfl (lv_at hl 0 rfl) ?_
  refine lv_iload_n hx hb dJ9_floorDiv_7cf53_1 rfl (lv_at hl 1 rfl) ?_
  obtain ⟨hg, hF⟩ := grd hF
  refine lv_idiv hx hb dJ9_floorDiv_7cf53_2 hg ?_
  refine lv_istore_n (lv' := [(2, .int (a0 / a1)), (0, .int a0), (1, .int a1)]) hx hb dJ9_floorDiv_7cf53_3 rfl hl (by decide) rfl (fun ls hl => ?_)
  refine lv_iload_n hx hb dJ9_floorDiv_7cf53_4 rfl (lv_at hl 1 rfl) ?_
  refine lv_iload_n hx hb dJ9_floorDiv_7cf53_5 rfl (lv_at hl 2 rfl) ?_
  refine lv_ixor hx hb dJ9_floorDiv_7cf53_6 ?_
  refine lv_if_ge (tgt := 21) hx hb dJ9_floorDiv_7cf53_7 (by decide) (fun c1 => ?_) (fun c1 => ?_)
  · rw [if_pos c1] at hF
    refine lv_iload_n hx hb dJ9_floorDiv_7cf53_21 rfl (lv_at hl 0 rfl) ?_
    cases hF
    exact retI C0 hr hlk hW hS dJ9_floorDiv_7cf53_22
  · rw [if_neg c1] at hF
    refine lv_iload_n hx hb dJ9_floorDiv_7cf53_10 rfl (lv_at hl 0 rfl) ?_
    refine lv_iload_n hx hb dJ9_floorDiv_7cf53_11 rfl (lv_at hl 2 rfl) ?_
    refine lv_imul hx hb dJ9_floorDiv_7cf53_12 ?_
    refine lv_iload_n hx hb dJ9_floorDiv_7cf53_13 rfl (lv_at hl 1 rfl) ?_
    refine lv_icmp_eq (tgt := 21) hx hb dJ9_floorDiv_7cf53_14 (by decide) (fun c2 => ?_) (fun c2 => ?_)
    · rw [if_pos c2] at hF
      refine lv_iload_n hx hb dJ9_floorDiv_7cf53_21 rfl (lv_at hl 0 rfl) ?_
      cases hF
      exact retI C0 hr hlk hW hS dJ9_floorDiv_7cf53_22
    · rw [if_neg c2] at hF
      refine lv_iload_n hx hb dJ9_floorDiv_7cf53_17 rfl (lv_at hl 0 rfl) ?_
      refine lv_iconst (v := 1) hx hb dJ9_floorDiv_7cf53_18 (by decide) ?_
      refine lv_isub hx hb dJ9_floorDiv_7cf53_19 ?_
      cases hF
      exact retI C0 hr hlk hW hS dJ9_floorDiv_7cf53_20
theorem hdsJ6_bitCount_0f7a4 : yJ6_bitCount_0f7a4.cls ≠ "java/lang/invoke/MethodHandle" ∧ yJ6_bitCount_0f7a4.cls ≠ "java/lang/invoke/VarHandle" ∧ (parseMethodDescriptor yJ6_bitCount_0f7a4.desc).map (fun d => d.parameters.length) = some 1 := by decide +kernel
def FJ6_bitCount_0f7a4 (ns nb : Nat) (σ : Sg) (a0 : Int32) : Option (Int32 × Sg) :=
  some ((((((((a0 - (((a0.toUInt32 >>> ((1 : Int32).toUInt32 &&& Int32.toUInt32 31)).toInt32) &&& 1431655765)) &&& 858993459) + ((((a0 - (((a0.toUInt32 >>> ((1 : Int32).toUInt32 &&& Int32.toUInt32 31)).toInt32) &&& 1431655765)).toUInt32 >>> ((2 : Int32).toUInt32 &&& Int32.toUInt32 31)).toInt32) &&& 858993459)) + (((((a0 - (((a0.toUInt32 >>> ((1 : Int32).toUInt32 &&& Int32.toUInt32 31)).toInt32) &&& 1431655765)) &&& 858993459) + ((((a0 - (((a0.toUInt32 >>> ((1 : Int32).toUInt32 &&& Int32.toUInt32 31)).toInt32) &&& 1431655765)).toUInt32 >>> ((2 : Int32).toUInt32 &&& Int32.toUInt32 31)).toInt32) &&& 858993459)).toUInt32 >>> ((4 : Int32).toUInt32 &&& Int32.toUInt32 31)).toInt32)) &&& 252645135) + (((((((a0 - (((a0.toUInt32 >>> ((1 : Int32).toUInt32 &&& Int32.toUInt32 31)).toInt32) &&& 1431655765)) &&& 858993459) + ((((a0 - (((a0.toUInt32 >>> ((1 : Int32).toUInt32 &&& Int32.toUInt32 31)).toInt32) &&& 1431655765)).toUInt32 >>> ((2 : Int32).toUInt32 &&& Int32.toUInt32 31)).toInt32) &&& 858993459)) + (((((a0 - (((a0.toUInt32 >>> ((1 : Int32).toUInt32 &&& Int32.toUInt32 31)).toInt32) &&& 1431655765)) &&& 858993459) + ((((a0 - (((a0.toUInt32 >>> ((1 : Int32).toUInt32 &&& Int32.toUInt32 31)).toInt32) &&& 1431655765)).toUInt32 >>> ((2 : Int32).toUInt32 &&& Int32.toUInt32 31)).toInt32) &&& 858993459)).toUInt32 >>> ((4 : Int32).toUInt32 &&& Int32.toUInt32 31)).toInt32)) &&& 252645135).toUInt32 >>> ((8 : Int32).toUInt32 &&& Int32.toUInt32 31)).toInt32)) + ((((((((a0 - (((a0.toUInt32 >>> ((1 : Int32).toUInt32 &&& Int32.toUInt32 31)).toInt32) &&& 1431655765)) &&& 858993459) + ((((a0 - (((a0.toUInt32 >>> ((1 : Int32).toUInt32 &&& Int32.toUInt32 31)).toInt32) &&& 1431655765)).toUInt32 >>> ((2 : Int32).toUInt32 &&& Int32.toUInt32 31)).toInt32) &&& 858993459)) + (((((a0 - (((a0.toUInt32 >>> ((1 : Int32).toUInt32 &&& Int32.toUInt32 31)).toInt32) &&& 1431655765)) &&& 858993459) + ((((a0 - (((a0.toUInt32 >>> ((1 : Int32).toUInt32 &&& Int32.toUInt32 31)).toInt32) &&& 1431655765)).toUInt32 >>> ((2 : Int32).toUInt32 &&& Int32.toUInt32 31)).toInt32) &&& 858993459)).toUInt32 >>> ((4 : Int32).toUInt32 &&& Int32.toUInt32 31)).toInt32)) &&& 252645135) + (((((((a0 - (((a0.toUInt32 >>> ((1 : Int32).toUInt32 &&& Int32.toUInt32 31)).toInt32) &&& 1431655765)) &&& 858993459) + ((((a0 - (((a0.toUInt32 >>> ((1 : Int32).toUInt32 &&& Int32.toUInt32 31)).toInt32) &&& 1431655765)).toUInt32 >>> ((2 : Int32).toUInt32 &&& Int32.toUInt32 31)).toInt32) &&& 858993459)) + (((((a0 - (((a0.toUInt32 >>> ((1 : Int32).toUInt32 &&& Int32.toUInt32 31)).toInt32) &&& 1431655765)) &&& 858993459) + ((((a0 - (((a0.toUInt32 >>> ((1 : Int32).toUInt32 &&& Int32.toUInt32 31)).toInt32) &&& 1431655765)).toUInt32 >>> ((2 : Int32).toUInt32 &&& Int32.toUInt32 31)).toInt32) &&& 858993459)).toUInt32 >>> ((4 : Int32).toUInt32 &&& Int32.toUInt32 31)).toInt32)) &&& 252645135).toUInt32 >>> ((8 : Int32).toUInt32 &&& Int32.toUInt32 31)).toInt32)).toUInt32 >>> ((16 : Int32).toUInt32 &&& Int32.toUInt32 31)).toInt32)) &&& 63, σ)
set_option maxHeartbeats 4000000 in
set_option maxRecDepth 100000 in
theorem kJ6_bitCount_0f7a4 (l : Launch) (lo : Nat) (g : Gx) (h : Sh) (σ : Sg) (a0 : Int32)  (r : Int32) (σ1 : Sg) (hF : FJ6_bitCount_0f7a4 h.1 h.2.1 σ a0 = some (r, σ1)) : MI l yJ6_bitCount_0f7a4 (ws_ yJ6_bitCount_0f7a4 cJ6_bitCount_0f7a4 1 (some .int)) 0 0 0 0 lo g h [.int a0] σ r σ1 := by
  refine ofBF (own := RJ6) (by decide +kernel) rfl (fun p e s m below meth c C0 hr hlk hlo hK hZ hW hS ls hl => ?_) (Nat.le_of_ble_eq_true rfl)
  have hx := C0.1
  have hb := C0.2.1
  have hl : lv_has ls 1 [(0, .int a0)] := hl
  unfold FJ6_bitCount_0f7a4 at hF
  refine lv_iload_n hx hb dJ6_bitCount_0f7a4_0 rfl (lv_at hl 0 rfl) ?_
  refine lv_iload_n hx hb dJ6_bitCount_0f7a4_1 rfl (lv_at hl 0 rfl) ?_
  refine lv_iconst (v := 1) hx hb dJ6_bitCount_0f7a4_2 (by decide) ?_
  refine lv_iushr hx hb dJ6_bitCount_0f7a4_3 rfl ?_
  refine lv_ldcw hx hb C0.2.2.2.1 (C0.2.2.2.2 _ wconstant_J6_265) dJ6_bitCount_0f7a4_4 ?_
  refine lv_iand hx hb dJ6_bitCount_0f7a4_7 ?_
  refine lv_isub hx hb dJ6_bitCount_0f7a4_8 ?_
  refine lv_istore_n (lv' := [(0, .int (a0 - (((a0.toUInt32 >>> ((1 : Int32).toUInt32 &&& Int32.toUInt32 31)).toInt32) &&& 1431655765)))]) hx hb dJ6_bitCount_0f7a4_9 rfl hl (by decide) rfl (fun ls hl => ?_)
  refine lv_iload_n hx hb dJ6_bitCount_0f7a4_10 rfl (lv_at hl 0 rfl) ?_
  refine lv_ldcw hx hb C0.2.2.2.1 (C0.2.2.2.2 _ wconstant_J6_266) dJ6_bitCount_0f7a4_11 ?_
  refine lv_iand hx hb dJ6_bitCount_0f7a4_14 ?_
  refine lv_iload_n hx hb dJ6_bitCount_0f7a4_15 rfl (lv_at hl 0 rfl) ?_
  refine lv_iconst (v := 2) hx hb dJ6_bitCount_0f7a4_16 (by decide) ?_
  refine lv_iushr hx hb dJ6_bitCount_0f7a4_17 rfl ?_
  refine lv_ldcw hx hb C0.2.2.2.1 (C0.2.2.2.2 _ wconstant_J6_266) dJ6_bitCount_0f7a4_18 ?_
  refine lv_iand hx hb dJ6_bitCount_0f7a4_21 ?_
  refine lv_iadd hx hb dJ6_bitCount_0f7a4_22 ?_
  refine lv_istore_n (lv' := [(0, .int (((a0 - (((a0.toUInt32 >>> ((1 : Int32).toUInt32 &&& Int32.toUInt32 31)).toInt32) &&& 1431655765)) &&& 858993459) + ((((a0 - (((a0.toUInt32 >>> ((1 : Int32).toUInt32 &&& Int32.toUInt32 31)).toInt32) &&& 1431655765)).toUInt32 >>> ((2 : Int32).toUInt32 &&& Int32.toUInt32 31)).toInt32) &&& 858993459)))]) hx hb dJ6_bitCount_0f7a4_23 rfl hl (by decide) rfl (fun ls hl => ?_)
  refine lv_iload_n hx hb dJ6_bitCount_0f7a4_24 rfl (lv_at hl 0 rfl) ?_
  refine lv_iload_n hx hb dJ6_bitCount_0f7a4_25 rfl (lv_at hl 0 rfl) ?_
  refine lv_iconst (v := 4) hx hb dJ6_bitCount_0f7a4_26 (by decide) ?_
  refine lv_iushr hx hb dJ6_bitCount_0f7a4_27 rfl ?_
  refine lv_iadd hx hb dJ6_bitCount_0f7a4_28 ?_
  refine lv_ldcw hx hb C0.2.2.2.1 (C0.2.2.2.2 _ wconstant_J6_267) dJ6_bitCount_0f7a4_29 ?_
  refine lv_iand hx hb dJ6_bitCount_0f7a4_32 ?_
  refine lv_istore_n (lv' := [(0, .int (((((a0 - (((a0.toUInt32 >>> ((1 : Int32).toUInt32 &&& Int32.toUInt32 31)).toInt32) &&& 1431655765)) &&& 858993459) + ((((a0 - (((a0.toUInt32 >>> ((1 : Int32).toUInt32 &&& Int32.toUInt32 31)).toInt32) &&& 1431655765)).toUInt32 >>> ((2 : Int32).toUInt32 &&& Int32.toUInt32 31)).toInt32) &&& 858993459)) + (((((a0 - (((a0.toUInt32 >>> ((1 : Int32).toUInt32 &&& Int32.toUInt32 31)).toInt32) &&& 1431655765)) &&& 858993459) + ((((a0 - (((a0.toUInt32 >>> ((1 : Int32).toUInt32 &&& Int32.toUInt32 31)).toInt32) &&& 1431655765)).toUInt32 >>> ((2 : Int32).toUInt32 &&& Int32.toUInt32 31)).toInt32) &&& 858993459)).toUInt32 >>> ((4 : Int32).toUInt32 &&& Int32.toUInt32 31)).toInt32)) &&& 252645135))]) hx hb dJ6_bitCount_0f7a4_33 rfl hl (by decide) rfl (fun ls hl => ?_)
  refine lv_iload_n hx hb dJ6_bitCount_0f7a4_34 rfl (lv_at hl 0 rfl) ?_
  refine lv_iload_n hx hb dJ6_bitCount_0f7a4_35 rfl (lv_at hl 0 rfl) ?_
  refine lv_bipush (v := 8) hx hb dJ6_bitCount_0f7a4_36 (by decide) ?_
  refine lv_iushr hx hb dJ6_bitCount_0f7a4_38 rfl ?_
  refine lv_iadd hx hb dJ6_bitCount_0f7a4_39 ?_
  refine lv_istore_n (lv' := [(0, .int ((((((a0 - (((a0.toUInt32 >>> ((1 : Int32).toUInt32 &&& Int32.toUInt32 31)).toInt32) &&& 1431655765)) &&& 858993459) + ((((a0 - (((a0.toUInt32 >>> ((1 : Int32).toUInt32 &&& Int32.toUInt32 31)).toInt32) &&& 1431655765)).toUInt32 >>> ((2 : Int32).toUInt32 &&& Int32.toUInt32 31)).toInt32) &&& 858993459)) + (((((a0 - (((a0.toUInt32 >>> ((1 : Int32).toUInt32 &&& Int32.toUInt32 31)).toInt32) &&& 1431655765)) &&& 858993459) + ((((a0 - (((a0.toUInt32 >>> ((1 : Int32).toUInt32 &&& Int32.toUInt32 31)).toInt32) &&& 1431655765)).toUInt32 >>> ((2 : Int32).toUInt32 &&& Int32.toUInt32 31)).toInt32) &&& 858993459)).toUInt32 >>> ((4 : Int32).toUInt32 &&& Int32.toUInt32 31)).toInt32)) &&& 252645135) + (((((((a0 - (((a0.toUInt32 >>> ((1 : Int32).toUInt32 &&& Int32.toUInt32 31)).toInt32) &&& 1431655765)) &&& 858993459) + ((((a0 - (((a0.toUInt32 >>> ((1 : Int32).toUInt32 &&& Int32.toUInt32 31)).toInt32) &&& 1431655765)).toUInt32 >>> ((2 : Int32).toUInt32 &&& Int32.toUInt32 31)).toInt32) &&& 858993459)) + (((((a0 - (((a0.toUInt32 >>> ((1 : Int32).toUInt32 &&& Int32.toUInt32 31)).toInt32) &&& 1431655765)) &&& 858993459) + ((((a0 - (((a0.toUInt32 >>> ((1 : Int32).toUInt32 &&& Int32.toUInt32 31)).toInt32) &&& 1431655765)).toUInt32 >>> ((2 : Int32).toUInt32 &&& Int32.toUInt32 31)).toInt32) &&& 858993459)).toUInt32 >>> ((4 : Int32).toUInt32 &&& Int32.toUInt32 31)).toInt32)) &&& 252645135).toUInt32 >>> ((8 : Int32).toUInt32 &&& Int32.toUInt32 31)).toInt32)))]) hx hb dJ6_bitCount_0f7a4_40 rfl hl (by decide) rfl (fun ls hl => ?_)
  refine lv_iload_n hx hb dJ6_bitCount_0f7a4_41 rfl (lv_at hl 0 rfl) ?_
  refine lv_iload_n hx hb dJ6_bitCount_0f7a4_42 rfl (lv_at hl 0 rfl) ?_
  refine lv_bipush (v := 16) hx hb dJ6_bitCount_0f7a4_43 (by decide) ?_
  refine lv_iushr hx hb dJ6_bitCount_0f7a4_45 rfl ?_
  refine lv_iadd hx hb dJ6_bitCount_0f7a4_46 ?_
  refine lv_istore_n (lv' := [(0, .int (((((((a0 - (((a0.toUInt32 >>> ((1 : Int32).toUInt32 &&& Int32.toUInt32 31)).toInt32) &&& 1431655765)) &&& 858993459) + ((((a0 - (((a0.toUInt32 >>> ((1 : Int32).toUInt32 &&& Int32.toUInt32 31)).toInt32) &&& 1431655765)).toUInt32 >>> ((2 : Int32).toUInt32 &&& Int32.toUInt32 31)).toInt32) &&& 858993459)) + (((((a0 - (((a0.toUInt32 >>> ((1 : Int32).toUInt32 &&& Int32.toUInt32 31)).toInt32) &&& 1431655765)) &&& 858993459) + ((((a0 - (((a0.toUInt32 >>> ((1 : Int32).toUInt32 &&& Int32.toUInt32 31)).toInt32) &&& 1431655765)).toUInt32 >>> ((2 : Int32).toUInt32 &&& Int32.toUInt32 31)).toInt32) &&& 858993459)).toUInt32 >>> ((4 : Int32).toUInt32 &&& Int32.toUInt32 31)).toInt32)) &&& 252645135) + (((((((a0 - (((a0.toUInt32 >>> ((1 : Int32).toUInt32 &&& Int32.toUInt32 31)).toInt32) &&& 1431655765)) &&& 858993459) + ((((a0 - (((a0.toUInt32 >>> ((1 : Int32).toUInt32 &&& Int32.toUInt32 31)).toInt32) &&& 1431655765)).toUInt32 >>> ((2 : Int32).toUInt32 &&& Int32.toUInt32 31)).toInt32) &&& 858993459)) + (((((a0 - (((a0.toUInt32 >>> ((1 : Int32).toUInt32 &&& Int32.toUInt32 31)).toInt32) &&& 1431655765)) &&& 858993459) + ((((a0 - (((a0.toUInt32 >>> ((1 : Int32).toUInt32 &&& Int32.toUInt32 31)).toInt32) &&& 1431655765)).toUInt32 >>> ((2 : Int32).toUInt32 &&& Int32.toUInt32 31)).toInt32) &&& 858993459)).toUInt32 >>> ((4 : Int32).toUInt32 &&& Int32.toUInt32 31)).toInt32)) &&& 252645135).toUInt32 >>> ((8 : Int32).toUInt32 &&& Int32.toUInt32 31)).toInt32)) + ((((((((a0 - (((a0.toUInt32 >>> ((1 : Int32).toUInt32 &&& Int32.toUInt32 31)).toInt32) &&& 1431655765)) &&& 858993459) + ((((a0 - (((a0.toUInt32 >>> ((1 : Int32).toUInt32 &&& Int32.toUInt32 31)).toInt32) &&& 1431655765)).toUInt32 >>> ((2 : Int32).toUInt32 &&& Int32.toUInt32 31)).toInt32) &&& 858993459)) + (((((a0 - (((a0.toUInt32 >>> ((1 : Int32).toUInt32 &&& Int32.toUInt32 31)).toInt32) &&& 1431655765)) &&& 858993459) + ((((a0 - (((a0.toUInt32 >>> ((1 : Int32).toUInt32 &&& Int32.toUInt32 31)).toInt32) &&& 1431655765)).toUInt32 >>> ((2 : Int32).toUInt32 &&& Int32.toUInt32 31)).toInt32) &&& 858993459)).toUInt32 >>> ((4 : Int32).toUInt32 &&& Int32.toUInt32 31)).toInt32)) &&& 252645135) + (((((((a0 - (((a0.toUInt32 >>> ((1 : Int32).toUInt32 &&& Int32.toUInt32 31)).toInt32) &&& 1431655765)) &&& 858993459) + ((((a0 - (((a0.toUInt32 >>> ((1 : Int32).toUInt32 &&& Int32.toUInt32 31)).toInt32) &&& 1431655765)).toUInt32 >>> ((2 : Int32).toUInt32 &&& Int32.toUInt32 31)).toInt32) &&& 858993459)) + (((((a0 - (((a0.toUInt32 >>> ((1 : Int32).toUInt32 &&& Int32.toUInt32 31)).toInt32) &&& 1431655765)) &&& 858993459) + ((((a0 - (((a0.toUInt32 >>> ((1 : Int32).toUInt32 &&& Int32.toUInt32 31)).toInt32) &&& 1431655765)).toUInt32 >>> ((2 : Int32).toUInt32 &&& Int32.toUInt32 31)).toInt32) &&& 858993459)).toUInt32 >>> ((4 : Int32).toUInt32 &&& Int32.toUInt32 31)).toInt32)) &&& 252645135).toUInt32 >>> ((8 : Int32).toUInt32 &&& Int32.toUInt32 31)).toInt32)).toUInt32 >>> ((16 : Int32).toUInt32 &&& Int32.toUInt32 31)).toInt32)))]) hx hb dJ6_bitCount_0f7a4_47 rfl hl (by decide) rfl (fun ls hl => ?_)
  refine lv_iload_n hx hb dJ6_bitCount_0f7a4_48 rfl (lv_at hl 0 rfl) ?_
  refine lv_bipush (v := 63) hx hb dJ6_bitCount_0f7a4_49 (by decide) ?_
  refine lv_iand hx hb dJ6_bitCount_0f7a4_51 ?_
  cases hF
  exact retI C0 hr hlk hW hS dJ6_bitCount_0f7a4_52
theorem hdsJ13_bitCount_95d88 : yJ13_bitCount_95d88.cls ≠ "java/lang/invoke/MethodHandle" ∧ yJ13_bitCount_95d88.cls ≠ "java/lang/invoke/VarHandle" ∧ (parseMethodDescriptor yJ13_bitCount_95d88.desc).map (fun d => d.parameters.length) = some 1 := by decide +kernel
def FJ13_bitCount_95d88 (ns nb : Nat) (σ : Sg) (a0 : Int64) : Option (Int32 × Sg) :=
  some ((((((((((a0 - (((a0.toUInt64 >>> ((1 : Int32).toInt64.toUInt64 &&& Int64.toUInt64 63)).toInt64) &&& 6148914691236517205)) &&& 3689348814741910323) + ((((a0 - (((a0.toUInt64 >>> ((1 : Int32).toInt64.toUInt64 &&& Int64.toUInt64 63)).toInt64) &&& 6148914691236517205)).toUInt64 >>> ((2 : Int32).toInt64.toUInt64 &&& Int64.toUInt64 63)).toInt64) &&& 3689348814741910323)) + (((((a0 - (((a0.toUInt64 >>> ((1 : Int32).toInt64.toUInt64 &&& Int64.toUInt64 63)).toInt64) &&& 6148914691236517205)) &&& 3689348814741910323) + ((((a0 - (((a0.toUInt64 >>> ((1 : Int32).toInt64.toUInt64 &&& Int64.toUInt64 63)).toInt64) &&& 6148914691236517205)).toUInt64 >>> ((2 : Int32).toInt64.toUInt64 &&& Int64.toUInt64 63)).toInt64) &&& 3689348814741910323)).toUInt64 >>> ((4 : Int32).toInt64.toUInt64 &&& Int64.toUInt64 63)).toInt64)) &&& 1085102592571150095) + (((((((a0 - (((a0.toUInt64 >>> ((1 : Int32).toInt64.toUInt64 &&& Int64.toUInt64 63)).toInt64) &&& 6148914691236517205)) &&& 3689348814741910323) + ((((a0 - (((a0.toUInt64 >>> ((1 : Int32).toInt64.toUInt64 &&& Int64.toUInt64 63)).toInt64) &&& 6148914691236517205)).toUInt64 >>> ((2 : Int32).toInt64.toUInt64 &&& Int64.toUInt64 63)).toInt64) &&& 3689348814741910323)) + (((((a0 - (((a0.toUInt64 >>> ((1 : Int32).toInt64.toUInt64 &&& Int64.toUInt64 63)).toInt64) &&& 6148914691236517205)) &&& 3689348814741910323) + ((((a0 - (((a0.toUInt64 >>> ((1 : Int32).toInt64.toUInt64 &&& Int64.toUInt64 63)).toInt64) &&& 6148914691236517205)).toUInt64 >>> ((2 : Int32).toInt64.toUInt64 &&& Int64.toUInt64 63)).toInt64) &&& 3689348814741910323)).toUInt64 >>> ((4 : Int32).toInt64.toUInt64 &&& Int64.toUInt64 63)).toInt64)) &&& 1085102592571150095).toUInt64 >>> ((8 : Int32).toInt64.toUInt64 &&& Int64.toUInt64 63)).toInt64)) + ((((((((a0 - (((a0.toUInt64 >>> ((1 : Int32).toInt64.toUInt64 &&& Int64.toUInt64 63)).toInt64) &&& 6148914691236517205)) &&& 3689348814741910323) + ((((a0 - (((a0.toUInt64 >>> ((1 : Int32).toInt64.toUInt64 &&& Int64.toUInt64 63)).toInt64) &&& 6148914691236517205)).toUInt64 >>> ((2 : Int32).toInt64.toUInt64 &&& Int64.toUInt64 63)).toInt64) &&& 3689348814741910323)) + (((((a0 - (((a0.toUInt64 >>> ((1 : Int32).toInt64.toUInt64 &&& Int64.toUInt64 63)).toInt64) &&& 6148914691236517205)) &&& 3689348814741910323) + ((((a0 - (((a0.toUInt64 >>> ((1 : Int32).toInt64.toUInt64 &&& Int64.toUInt64 63)).toInt64) &&& 6148914691236517205)).toUInt64 >>> ((2 : Int32).toInt64.toUInt64 &&& Int64.toUInt64 63)).toInt64) &&& 3689348814741910323)).toUInt64 >>> ((4 : Int32).toInt64.toUInt64 &&& Int64.toUInt64 63)).toInt64)) &&& 1085102592571150095) + (((((((a0 - (((a0.toUInt64 >>> ((1 : Int32).toInt64.toUInt64 &&& Int64.toUInt64 63)).toInt64) &&& 6148914691236517205)) &&& 3689348814741910323) + ((((a0 - (((a0.toUInt64 >>> ((1 : Int32).toInt64.toUInt64 &&& Int64.toUInt64 63)).toInt64) &&& 6148914691236517205)).toUInt64 >>> ((2 : Int32).toInt64.toUInt64 &&& Int64.toUInt64 63)).toInt64) &&& 3689348814741910323)) + (((((a0 - (((a0.toUInt64 >>> ((1 : Int32).toInt64.toUInt64 &&& Int64.toUInt64 63)).toInt64) &&& 6148914691236517205)) &&& 3689348814741910323) + ((((a0 - (((a0.toUInt64 >>> ((1 : Int32).toInt64.toUInt64 &&& Int64.toUInt64 63)).toInt64) &&& 6148914691236517205)).toUInt64 >>> ((2 : Int32).toInt64.toUInt64 &&& Int64.toUInt64 63)).toInt64) &&& 3689348814741910323)).toUInt64 >>> ((4 : Int32).toInt64.toUInt64 &&& Int64.toUInt64 63)).toInt64)) &&& 1085102592571150095).toUInt64 >>> ((8 : Int32).toInt64.toUInt64 &&& Int64.toUInt64 63)).toInt64)).toUInt64 >>> ((16 : Int32).toInt64.toUInt64 &&& Int64.toUInt64 63)).toInt64)) + (((((((((a0 - (((a0.toUInt64 >>> ((1 : Int32).toInt64.toUInt64 &&& Int64.toUInt64 63)).toInt64) &&& 6148914691236517205)) &&& 3689348814741910323) + ((((a0 - (((a0.toUInt64 >>> ((1 : Int32).toInt64.toUInt64 &&& Int64.toUInt64 63)).toInt64) &&& 6148914691236517205)).toUInt64 >>> ((2 : Int32).toInt64.toUInt64 &&& Int64.toUInt64 63)).toInt64) &&& 3689348814741910323)) + (((((a0 - (((a0.toUInt64 >>> ((1 : Int32).toInt64.toUInt64 &&& Int64.toUInt64 63)).toInt64) &&& 6148914691236517205)) &&& 3689348814741910323) + ((((a0 - (((a0.toUInt64 >>> ((1 : Int32).toInt64.toUInt64 &&& Int64.toUInt64 63)).toInt64) &&& 6148914691236517205)).toUInt64 >>> ((2 : Int32).toInt64.toUInt64 &&& Int64.toUInt64 63)).toInt64) &&& 3689348814741910323)).toUInt64 >>> ((4 : Int32).toInt64.toUInt64 &&& Int64.toUInt64 63)).toInt64)) &&& 1085102592571150095) + (((((((a0 - (((a0.toUInt64 >>> ((1 : Int32).toInt64.toUInt64 &&& Int64.toUInt64 63)).toInt64) &&& 6148914691236517205)) &&& 3689348814741910323) + ((((a0 - (((a0.toUInt64 >>> ((1 : Int32).toInt64.toUInt64 &&& Int64.toUInt64 63)).toInt64) &&& 6148914691236517205)).toUInt64 >>> ((2 : Int32).toInt64.toUInt64 &&& Int64.toUInt64 63)).toInt64) &&& 3689348814741910323)) + (((((a0 - (((a0.toUInt64 >>> ((1 : Int32).toInt64.toUInt64 &&& Int64.toUInt64 63)).toInt64) &&& 6148914691236517205)) &&& 3689348814741910323) + ((((a0 - (((a0.toUInt64 >>> ((1 : Int32).toInt64.toUInt64 &&& Int64.toUInt64 63)).toInt64) &&& 6148914691236517205)).toUInt64 >>> ((2 : Int32).toInt64.toUInt64 &&& Int64.toUInt64 63)).toInt64) &&& 3689348814741910323)).toUInt64 >>> ((4 : Int32).toInt64.toUInt64 &&& Int64.toUInt64 63)).toInt64)) &&& 1085102592571150095).toUInt64 >>> ((8 : Int32).toInt64.toUInt64 &&& Int64.toUInt64 63)).toInt64)) + ((((((((a0 - (((a0.toUInt64 >>> ((1 : Int32).toInt64.toUInt64 &&& Int64.toUInt64 63)).toInt64) &&& 6148914691236517205)) &&& 3689348814741910323) + ((((a0 - (((a0.toUInt64 >>> ((1 : Int32).toInt64.toUInt64 &&& Int64.toUInt64 63)).toInt64) &&& 6148914691236517205)).toUInt64 >>> ((2 : Int32).toInt64.toUInt64 &&& Int64.toUInt64 63)).toInt64) &&& 3689348814741910323)) + (((((a0 - (((a0.toUInt64 >>> ((1 : Int32).toInt64.toUInt64 &&& Int64.toUInt64 63)).toInt64) &&& 6148914691236517205)) &&& 3689348814741910323) + ((((a0 - (((a0.toUInt64 >>> ((1 : Int32).toInt64.toUInt64 &&& Int64.toUInt64 63)).toInt64) &&& 6148914691236517205)).toUInt64 >>> ((2 : Int32).toInt64.toUInt64 &&& Int64.toUInt64 63)).toInt64) &&& 3689348814741910323)).toUInt64 >>> ((4 : Int32).toInt64.toUInt64 &&& Int64.toUInt64 63)).toInt64)) &&& 1085102592571150095) + (((((((a0 - (((a0.toUInt64 >>> ((1 : Int32).toInt64.toUInt64 &&& Int64.toUInt64 63)).toInt64) &&& 6148914691236517205)) &&& 3689348814741910323) + ((((a0 - (((a0.toUInt64 >>> ((1 : Int32).toInt64.toUInt64 &&& Int64.toUInt64 63)).toInt64) &&& 6148914691236517205)).toUInt64 >>> ((2 : Int32).toInt64.toUInt64 &&& Int64.toUInt64 63)).toInt64) &&& 3689348814741910323)) + (((((a0 - (((a0.toUInt64 >>> ((1 : Int32).toInt64.toUInt64 &&& Int64.toUInt64 63)).toInt64) &&& 6148914691236517205)) &&& 3689348814741910323) + ((((a0 - (((a0.toUInt64 >>> ((1 : Int32).toInt64.toUInt64 &&& Int64.toUInt64 63)).toInt64) &&& 6148914691236517205)).toUInt64 >>> ((2 : Int32).toInt64.toUInt64 &&& Int64.toUInt64 63)).toInt64) &&& 3689348814741910323)).toUInt64 >>> ((4 : Int32).toInt64.toUInt64 &&& Int64.toUInt64 63)).toInt64)) &&& 1085102592571150095).toUInt64 >>> ((8 : Int32).toInt64.toUInt64 &&& Int64.toUInt64 63)).toInt64)).toUInt64 >>> ((16 : Int32).toInt64.toUInt64 &&& Int64.toUInt64 63)).toInt64)).toUInt64 >>> ((32 : Int32).toInt64.toUInt64 &&& Int64.toUInt64 63)).toInt64)).toInt32) &&& 127, σ)
set_option maxHeartbeats 4000000 in
set_option maxRecDepth 100000 in
theorem kJ13_bitCount_95d88 (l : Launch) (lo : Nat) (g : Gx) (h : Sh) (σ : Sg) (a0 : Int64)  (r : Int32) (σ1 : Sg) (hF : FJ13_bitCount_95d88 h.1 h.2.1 σ a0 = some (r, σ1)) : MI l yJ13_bitCount_95d88 (ws_ yJ13_bitCount_95d88 cJ13_bitCount_95d88 2 (some .int)) 0 0 0 0 lo g h [.long a0] σ r σ1 := by
  refine ofBF (own := RJ13) (by decide +kernel) rfl (fun p e s m below meth c C0 hr hlk hlo hK hZ hW hS ls hl => ?_) (Nat.le_of_ble_eq_true rfl)
  have hx := C0.1
  have hb := C0.2.1
  have hl : lv_has ls 2 [(0, .long a0)] := hl
  unfold FJ13_bitCount_95d88 at hF
  refine lv_lload_n hx hb dJ13_bitCount_95d88_0 rfl (lv_at hl 0 rfl) ?_
  refine lv_lload_n hx hb dJ13_bitCount_95d88_1 rfl (lv_at hl 0 rfl) ?_
  refine lv_iconst (v := 1) hx hb dJ13_bitCount_95d88_2 (by decide) ?_
  refine lv_lushr hx hb dJ13_bitCount_95d88_3 rfl ?_
  refine lv_ldc2 hx hb C0.2.2.2.1 (C0.2.2.2.2 _ wconstantLong_J13_314) dJ13_bitCount_95d88_4 ?_
  refine lv_land hx hb dJ13_bitCount_95d88_7 ?_
  refine lv_lsub hx hb dJ13_bitCount_95d88_8 ?_
  refine lv_lstore_n (lv' := [(0, .long (a0 - (((a0.toUInt64 >>> ((1 : Int32).toInt64.toUInt64 &&& Int64.toUInt64 63)).toInt64) &&& 6148914691236517205)))]) hx hb dJ13_bitCount_95d88_9 rfl hl (by decide) rfl (fun ls hl => ?_)
  refine lv_lload_n hx hb dJ13_bitCount_95d88_10 rfl (lv_at hl 0 rfl) ?_
  refine lv_ldc2 hx hb C0.2.2.2.1 (C0.2.2.2.2 _ wconstantLong_J13_316) dJ13_bitCount_95d88_11 ?_
  refine lv_land hx hb dJ13_bitCount_95d88_14 ?_
  refine lv_lload_n hx hb dJ13_bitCount_95d88_15 rfl (lv_at hl 0 rfl) ?_
  refine lv_iconst (v := 2) hx hb dJ13_bitCount_95d88_16 (by decide) ?_
  refine lv_lushr hx hb dJ13_bitCount_95d88_17 rfl ?_
  refine lv_ldc2 hx hb C0.2.2.2.1 (C0.2.2.2.2 _ wconstantLong_J13_316) dJ13_bitCount_95d88_18 ?_
  refine lv_land hx hb dJ13_bitCount_95d88_21 ?_
  refine lv_ladd hx hb dJ13_bitCount_95d88_22 ?_
  refine lv_lstore_n (lv' := [(0, .long (((a0 - (((a0.toUInt64 >>> ((1 : Int32).toInt64.toUInt64 &&& Int64.toUInt64 63)).toInt64) &&& 6148914691236517205)) &&& 3689348814741910323) + ((((a0 - (((a0.toUInt64 >>> ((1 : Int32).toInt64.toUInt64 &&& Int64.toUInt64 63)).toInt64) &&& 6148914691236517205)).toUInt64 >>> ((2 : Int32).toInt64.toUInt64 &&& Int64.toUInt64 63)).toInt64) &&& 3689348814741910323)))]) hx hb dJ13_bitCount_95d88_23 rfl hl (by decide) rfl (fun ls hl => ?_)
  refine lv_lload_n hx hb dJ13_bitCount_95d88_24 rfl (lv_at hl 0 rfl) ?_
  refine lv_lload_n hx hb dJ13_bitCount_95d88_25 rfl (lv_at hl 0 rfl) ?_
  refine lv_iconst (v := 4) hx hb dJ13_bitCount_95d88_26 (by decide) ?_
  refine lv_lushr hx hb dJ13_bitCount_95d88_27 rfl ?_
  refine lv_ladd hx hb dJ13_bitCount_95d88_28 ?_
  refine lv_ldc2 hx hb C0.2.2.2.1 (C0.2.2.2.2 _ wconstantLong_J13_318) dJ13_bitCount_95d88_29 ?_
  refine lv_land hx hb dJ13_bitCount_95d88_32 ?_
  refine lv_lstore_n (lv' := [(0, .long (((((a0 - (((a0.toUInt64 >>> ((1 : Int32).toInt64.toUInt64 &&& Int64.toUInt64 63)).toInt64) &&& 6148914691236517205)) &&& 3689348814741910323) + ((((a0 - (((a0.toUInt64 >>> ((1 : Int32).toInt64.toUInt64 &&& Int64.toUInt64 63)).toInt64) &&& 6148914691236517205)).toUInt64 >>> ((2 : Int32).toInt64.toUInt64 &&& Int64.toUInt64 63)).toInt64) &&& 3689348814741910323)) + (((((a0 - (((a0.toUInt64 >>> ((1 : Int32).toInt64.toUInt64 &&& Int64.toUInt64 63)).toInt64) &&& 6148914691236517205)) &&& 3689348814741910323) + ((((a0 - (((a0.toUInt64 >>> ((1 : Int32).toInt64.toUInt64 &&& Int64.toUInt64 63)).toInt64) &&& 6148914691236517205)).toUInt64 >>> ((2 : Int32).toInt64.toUInt64 &&& Int64.toUInt64 63)).toInt64) &&& 3689348814741910323)).toUInt64 >>> ((4 : Int32).toInt64.toUInt64 &&& Int64.toUInt64 63)).toInt64)) &&& 1085102592571150095))]) hx hb dJ13_bitCount_95d88_33 rfl hl (by decide) rfl (fun ls hl => ?_)
  refine lv_lload_n hx hb dJ13_bitCount_95d88_34 rfl (lv_at hl 0 rfl) ?_
  refine lv_lload_n hx hb dJ13_bitCount_95d88_35 rfl (lv_at hl 0 rfl) ?_
  refine lv_bipush (v := 8) hx hb dJ13_bitCount_95d88_36 (by decide) ?_
  refine lv_lushr hx hb dJ13_bitCount_95d88_38 rfl ?_
  refine lv_ladd hx hb dJ13_bitCount_95d88_39 ?_
  refine lv_lstore_n (lv' := [(0, .long ((((((a0 - (((a0.toUInt64 >>> ((1 : Int32).toInt64.toUInt64 &&& Int64.toUInt64 63)).toInt64) &&& 6148914691236517205)) &&& 3689348814741910323) + ((((a0 - (((a0.toUInt64 >>> ((1 : Int32).toInt64.toUInt64 &&& Int64.toUInt64 63)).toInt64) &&& 6148914691236517205)).toUInt64 >>> ((2 : Int32).toInt64.toUInt64 &&& Int64.toUInt64 63)).toInt64) &&& 3689348814741910323)) + (((((a0 - (((a0.toUInt64 >>> ((1 : Int32).toInt64.toUInt64 &&& Int64.toUInt64 63)).toInt64) &&& 6148914691236517205)) &&& 3689348814741910323) + ((((a0 - (((a0.toUInt64 >>> ((1 : Int32).toInt64.toUInt64 &&& Int64.toUInt64 63)).toInt64) &&& 6148914691236517205)).toUInt64 >>> ((2 : Int32).toInt64.toUInt64 &&& Int64.toUInt64 63)).toInt64) &&& 3689348814741910323)).toUInt64 >>> ((4 : Int32).toInt64.toUInt64 &&& Int64.toUInt64 63)).toInt64)) &&& 1085102592571150095) + (((((((a0 - (((a0.toUInt64 >>> ((1 : Int32).toInt64.toUInt64 &&& Int64.toUInt64 63)).toInt64) &&& 6148914691236517205)) &&& 3689348814741910323) + ((((a0 - (((a0.toUInt64 >>> ((1 : Int32).toInt64.toUInt64 &&& Int64.toUInt64 63)).toInt64) &&& 6148914691236517205)).toUInt64 >>> ((2 : Int32).toInt64.toUInt64 &&& Int64.toUInt64 63)).toInt64) &&& 3689348814741910323)) + (((((a0 - (((a0.toUInt64 >>> ((1 : Int32).toInt64.toUInt64 &&& Int64.toUInt64 63)).toInt64) &&& 6148914691236517205)) &&& 3689348814741910323) + ((((a0 - (((a0.toUInt64 >>> ((1 : Int32).toInt64.toUInt64 &&& Int64.toUInt64 63)).toInt64) &&& 6148914691236517205)).toUInt64 >>> ((2 : Int32).toInt64.toUInt64 &&& Int64.toUInt64 63)).toInt64) &&& 3689348814741910323)).toUInt64 >>> ((4 : Int32).toInt64.toUInt64 &&& Int64.toUInt64 63)).toInt64)) &&& 1085102592571150095).toUInt64 >>> ((8 : Int32).toInt64.toUInt64 &&& Int64.toUInt64 63)).toInt64)))]) hx hb dJ13_bitCount_95d88_40 rfl hl (by decide) rfl (fun ls hl => ?_)
  refine lv_lload_n hx hb dJ13_bitCount_95d88_41 rfl (lv_at hl 0 rfl) ?_
  refine lv_lload_n hx hb dJ13_bitCount_95d88_42 rfl (lv_at hl 0 rfl) ?_
  refine lv_bipush (v := 16) hx hb dJ13_bitCount_95d88_43 (by decide) ?_
  refine lv_lushr hx hb dJ13_bitCount_95d88_45 rfl ?_
  refine lv_ladd hx hb dJ13_bitCount_95d88_46 ?_
  refine lv_lstore_n (lv' := [(0, .long (((((((a0 - (((a0.toUInt64 >>> ((1 : Int32).toInt64.toUInt64 &&& Int64.toUInt64 63)).toInt64) &&& 6148914691236517205)) &&& 3689348814741910323) + ((((a0 - (((a0.toUInt64 >>> ((1 : Int32).toInt64.toUInt64 &&& Int64.toUInt64 63)).toInt64) &&& 6148914691236517205)).toUInt64 >>> ((2 : Int32).toInt64.toUInt64 &&& Int64.toUInt64 63)).toInt64) &&& 3689348814741910323)) + (((((a0 - (((a0.toUInt64 >>> ((1 : Int32).toInt64.toUInt64 &&& Int64.toUInt64 63)).toInt64) &&& 6148914691236517205)) &&& 3689348814741910323) + ((((a0 - (((a0.toUInt64 >>> ((1 : Int32).toInt64.toUInt64 &&& Int64.toUInt64 63)).toInt64) &&& 6148914691236517205)).toUInt64 >>> ((2 : Int32).toInt64.toUInt64 &&& Int64.toUInt64 63)).toInt64) &&& 3689348814741910323)).toUInt64 >>> ((4 : Int32).toInt64.toUInt64 &&& Int64.toUInt64 63)).toInt64)) &&& 1085102592571150095) + (((((((a0 - (((a0.toUInt64 >>> ((1 : Int32).toInt64.toUInt64 &&& Int64.toUInt64 63)).toInt64) &&& 6148914691236517205)) &&& 3689348814741910323) + ((((a0 - (((a0.toUInt64 >>> ((1 : Int32).toInt64.toUInt64 &&& Int64.toUInt64 63)).toInt64) &&& 6148914691236517205)).toUInt64 >>> ((2 : Int32).toInt64.toUInt64 &&& Int64.toUInt64 63)).toInt64) &&& 3689348814741910323)) + (((((a0 - (((a0.toUInt64 >>> ((1 : Int32).toInt64.toUInt64 &&& Int64.toUInt64 63)).toInt64) &&& 6148914691236517205)) &&& 3689348814741910323) + ((((a0 - (((a0.toUInt64 >>> ((1 : Int32).toInt64.toUInt64 &&& Int64.toUInt64 63)).toInt64) &&& 6148914691236517205)).toUInt64 >>> ((2 : Int32).toInt64.toUInt64 &&& Int64.toUInt64 63)).toInt64) &&& 3689348814741910323)).toUInt64 >>> ((4 : Int32).toInt64.toUInt64 &&& Int64.toUInt64 63)).toInt64)) &&& 1085102592571150095).toUInt64 >>> ((8 : Int32).toInt64.toUInt64 &&& Int64.toUInt64 63)).toInt64)) + ((((((((a0 - (((a0.toUInt64 >>> ((1 : Int32).toInt64.toUInt64 &&& Int64.toUInt64 63)).toInt64) &&& 6148914691236517205)) &&& 3689348814741910323) + ((((a0 - (((a0.toUInt64 >>> ((1 : Int32).toInt64.toUInt64 &&& Int64.toUInt64 63)).toInt64) &&& 6148914691236517205)).toUInt64 >>> ((2 : Int32).toInt64.toUInt64 &&& Int64.toUInt64 63)).toInt64) &&& 3689348814741910323)) + (((((a0 - (((a0.toUInt64 >>> ((1 : Int32).toInt64.toUInt64 &&& Int64.toUInt64 63)).toInt64) &&& 6148914691236517205)) &&& 3689348814741910323) + ((((a0 - (((a0.toUInt64 >>> ((1 : Int32).toInt64.toUInt64 &&& Int64.toUInt64 63)).toInt64) &&& 6148914691236517205)).toUInt64 >>> ((2 : Int32).toInt64.toUInt64 &&& Int64.toUInt64 63)).toInt64) &&& 3689348814741910323)).toUInt64 >>> ((4 : Int32).toInt64.toUInt64 &&& Int64.toUInt64 63)).toInt64)) &&& 1085102592571150095) + (((((((a0 - (((a0.toUInt64 >>> ((1 : Int32).toInt64.toUInt64 &&& Int64.toUInt64 63)).toInt64) &&& 6148914691236517205)) &&& 3689348814741910323) + ((((a0 - (((a0.toUInt64 >>> ((1 : Int32).toInt64.toUInt64 &&& Int64.toUInt64 63)).toInt64) &&& 6148914691236517205)).toUInt64 >>> ((2 : Int32).toInt64.toUInt64 &&& Int64.toUInt64 63)).toInt64) &&& 3689348814741910323)) + (((((a0 - (((a0.toUInt64 >>> ((1 : Int32).toInt64.toUInt64 &&& Int64.toUInt64 63)).toInt64) &&& 6148914691236517205)) &&& 3689348814741910323) + ((((a0 - (((a0.toUInt64 >>> ((1 : Int32).toInt64.toUInt64 &&& Int64.toUInt64 63)).toInt64) &&& 6148914691236517205)).toUInt64 >>> ((2 : Int32).toInt64.toUInt64 &&& Int64.toUInt64 63)).toInt64) &&& 3689348814741910323)).toUInt64 >>> ((4 : Int32).toInt64.toUInt64 &&& Int64.toUInt64 63)).toInt64)) &&& 1085102592571150095).toUInt64 >>> ((8 : Int32).toInt64.toUInt64 &&& Int64.toUInt64 63)).toInt64)).toUInt64 >>> ((16 : Int32).toInt64.toUInt64 &&& Int64.toUInt64 63)).toInt64)))]) hx hb dJ13_bitCount_95d88_47 rfl hl (by decide) rfl (fun ls hl => ?_)
  refine lv_lload_n hx hb dJ13_bitCount_95d88_48 rfl (lv_at hl 0 rfl) ?_
  refine lv_lload_n hx hb dJ13_bitCount_95d88_49 rfl (lv_at hl 0 rfl) ?_
  refine lv_bipush (v := 32) hx hb dJ13_bitCount_95d88_50 (by decide) ?_
  refine lv_lushr hx hb dJ13_bitCount_95d88_52 rfl ?_
  refine lv_ladd hx hb dJ13_bitCount_95d88_53 ?_
  refine lv_lstore_n (lv' := [(0, .long ((((((((a0 - (((a0.toUInt64 >>> ((1 : Int32).toInt64.toUInt64 &&& Int64.toUInt64 63)).toInt64) &&& 6148914691236517205)) &&& 3689348814741910323) + ((((a0 - (((a0.toUInt64 >>> ((1 : Int32).toInt64.toUInt64 &&& Int64.toUInt64 63)).toInt64) &&& 6148914691236517205)).toUInt64 >>> ((2 : Int32).toInt64.toUInt64 &&& Int64.toUInt64 63)).toInt64) &&& 3689348814741910323)) + (((((a0 - (((a0.toUInt64 >>> ((1 : Int32).toInt64.toUInt64 &&& Int64.toUInt64 63)).toInt64) &&& 6148914691236517205)) &&& 3689348814741910323) + ((((a0 - (((a0.toUInt64 >>> ((1 : Int32).toInt64.toUInt64 &&& Int64.toUInt64 63)).toInt64) &&& 6148914691236517205)).toUInt64 >>> ((2 : Int32).toInt64.toUInt64 &&& Int64.toUInt64 63)).toInt64) &&& 3689348814741910323)).toUInt64 >>> ((4 : Int32).toInt64.toUInt64 &&& Int64.toUInt64 63)).toInt64)) &&& 1085102592571150095) + (((((((a0 - (((a0.toUInt64 >>> ((1 : Int32).toInt64.toUInt64 &&& Int64.toUInt64 63)).toInt64) &&& 6148914691236517205)) &&& 3689348814741910323) + ((((a0 - (((a0.toUInt64 >>> ((1 : Int32).toInt64.toUInt64 &&& Int64.toUInt64 63)).toInt64) &&& 6148914691236517205)).toUInt64 >>> ((2 : Int32).toInt64.toUInt64 &&& Int64.toUInt64 63)).toInt64) &&& 3689348814741910323)) + (((((a0 - (((a0.toUInt64 >>> ((1 : Int32).toInt64.toUInt64 &&& Int64.toUInt64 63)).toInt64) &&& 6148914691236517205)) &&& 3689348814741910323) + ((((a0 - (((a0.toUInt64 >>> ((1 : Int32).toInt64.toUInt64 &&& Int64.toUInt64 63)).toInt64) &&& 6148914691236517205)).toUInt64 >>> ((2 : Int32).toInt64.toUInt64 &&& Int64.toUInt64 63)).toInt64) &&& 3689348814741910323)).toUInt64 >>> ((4 : Int32).toInt64.toUInt64 &&& Int64.toUInt64 63)).toInt64)) &&& 1085102592571150095).toUInt64 >>> ((8 : Int32).toInt64.toUInt64 &&& Int64.toUInt64 63)).toInt64)) + ((((((((a0 - (((a0.toUInt64 >>> ((1 : Int32).toInt64.toUInt64 &&& Int64.toUInt64 63)).toInt64) &&& 6148914691236517205)) &&& 3689348814741910323) + ((((a0 - (((a0.toUInt64 >>> ((1 : Int32).toInt64.toUInt64 &&& Int64.toUInt64 63)).toInt64) &&& 6148914691236517205)).toUInt64 >>> ((2 : Int32).toInt64.toUInt64 &&& Int64.toUInt64 63)).toInt64) &&& 3689348814741910323)) + (((((a0 - (((a0.toUInt64 >>> ((1 : Int32).toInt64.toUInt64 &&& Int64.toUInt64 63)).toInt64) &&& 6148914691236517205)) &&& 3689348814741910323) + ((((a0 - (((a0.toUInt64 >>> ((1 : Int32).toInt64.toUInt64 &&& Int64.toUInt64 63)).toInt64) &&& 6148914691236517205)).toUInt64 >>> ((2 : Int32).toInt64.toUInt64 &&& Int64.toUInt64 63)).toInt64) &&& 3689348814741910323)).toUInt64 >>> ((4 : Int32).toInt64.toUInt64 &&& Int64.toUInt64 63)).toInt64)) &&& 1085102592571150095) + (((((((a0 - (((a0.toUInt64 >>> ((1 : Int32).toInt64.toUInt64 &&& Int64.toUInt64 63)).toInt64) &&& 6148914691236517205)) &&& 3689348814741910323) + ((((a0 - (((a0.toUInt64 >>> ((1 : Int32).toInt64.toUInt64 &&& Int64.toUInt64 63)).toInt64) &&& 6148914691236517205)).toUInt64 >>> ((2 : Int32).toInt64.toUInt64 &&& Int64.toUInt64 63)).toInt64) &&& 3689348814741910323)) + (((((a0 - (((a0.toUInt64 >>> ((1 : Int32).toInt64.toUInt64 &&& Int64.toUInt64 63)).toInt64) &&& 6148914691236517205)) &&& 3689348814741910323) + ((((a0 - (((a0.toUInt64 >>> ((1 : Int32).toInt64.toUInt64 &&& Int64.toUInt64 63)).toInt64) &&& 6148914691236517205)).toUInt64 >>> ((2 : Int32).toInt64.toUInt64 &&& Int64.toUInt64 63)).toInt64) &&& 3689348814741910323)).toUInt64 >>> ((4 : Int32).toInt64.toUInt64 &&& Int64.toUInt64 63)).toInt64)) &&& 1085102592571150095).toUInt64 >>> ((8 : Int32).toInt64.toUInt64 &&& Int64.toUInt64 63)).toInt64)).toUInt64 >>> ((16 : Int32).toInt64.toUInt64 &&& Int64.toUInt64 63)).toInt64)) + (((((((((a0 - (((a0.toUInt64 >>> ((1 : Int32).toInt64.toUInt64 &&& Int64.toUInt64 63)).toInt64) &&& 6148914691236517205)) &&& 3689348814741910323) + ((((a0 - (((a0.toUInt64 >>> ((1 : Int32).toInt64.toUInt64 &&& Int64.toUInt64 63)).toInt64) &&& 6148914691236517205)).toUInt64 >>> ((2 : Int32).toInt64.toUInt64 &&& Int64.toUInt64 63)).toInt64) &&& 3689348814741910323)) + (((((a0 - (((a0.toUInt64 >>> ((1 : Int32).toInt64.toUInt64 &&& Int64.toUInt64 63)).toInt64) &&& 6148914691236517205)) &&& 3689348814741910323) + ((((a0 - (((a0.toUInt64 >>> ((1 : Int32).toInt64.toUInt64 &&& Int64.toUInt64 63)).toInt64) &&& 6148914691236517205)).toUInt64 >>> ((2 : Int32).toInt64.toUInt64 &&& Int64.toUInt64 63)).toInt64) &&& 3689348814741910323)).toUInt64 >>> ((4 : Int32).toInt64.toUInt64 &&& Int64.toUInt64 63)).toInt64)) &&& 1085102592571150095) + (((((((a0 - (((a0.toUInt64 >>> ((1 : Int32).toInt64.toUInt64 &&& Int64.toUInt64 63)).toInt64) &&& 6148914691236517205)) &&& 3689348814741910323) + ((((a0 - (((a0.toUInt64 >>> ((1 : Int32).toInt64.toUInt64 &&& Int64.toUInt64 63)).toInt64) &&& 6148914691236517205)).toUInt64 >>> ((2 : Int32).toInt64.toUInt64 &&& Int64.toUInt64 63)).toInt64) &&& 3689348814741910323)) + (((((a0 - (((a0.toUInt64 >>> ((1 : Int32).toInt64.toUInt64 &&& Int64.toUInt64 63)).toInt64) &&& 6148914691236517205)) &&& 3689348814741910323) + ((((a0 - (((a0.toUInt64 >>> ((1 : Int32).toInt64.toUInt64 &&& Int64.toUInt64 63)).toInt64) &&& 6148914691236517205)).toUInt64 >>> ((2 : Int32).toInt64.toUInt64 &&& Int64.toUInt64 63)).toInt64) &&& 3689348814741910323)).toUInt64 >>> ((4 : Int32).toInt64.toUInt64 &&& Int64.toUInt64 63)).toInt64)) &&& 1085102592571150095).toUInt64 >>> ((8 : Int32).toInt64.toUInt64 &&& Int64.toUInt64 63)).toInt64)) + ((((((((a0 - (((a0.toUInt64 >>> ((1 : Int32).toInt64.toUInt64 &&& Int64.toUInt64 63)).toInt64) &&& 6148914691236517205)) &&& 3689348814741910323) + ((((a0 - (((a0.toUInt64 >>> ((1 : Int32).toInt64.toUInt64 &&& Int64.toUInt64 63)).toInt64) &&& 6148914691236517205)).toUInt64 >>> ((2 : Int32).toInt64.toUInt64 &&& Int64.toUInt64 63)).toInt64) &&& 3689348814741910323)) + (((((a0 - (((a0.toUInt64 >>> ((1 : Int32).toInt64.toUInt64 &&& Int64.toUInt64 63)).toInt64) &&& 6148914691236517205)) &&& 3689348814741910323) + ((((a0 - (((a0.toUInt64 >>> ((1 : Int32).toInt64.toUInt64 &&& Int64.toUInt64 63)).toInt64) &&& 6148914691236517205)).toUInt64 >>> ((2 : Int32).toInt64.toUInt64 &&& Int64.toUInt64 63)).toInt64) &&& 3689348814741910323)).toUInt64 >>> ((4 : Int32).toInt64.toUInt64 &&& Int64.toUInt64 63)).toInt64)) &&& 1085102592571150095) + (((((((a0 - (((a0.toUInt64 >>> ((1 : Int32).toInt64.toUInt64 &&& Int64.toUInt64 63)).toInt64) &&& 6148914691236517205)) &&& 3689348814741910323) + ((((a0 - (((a0.toUInt64 >>> ((1 : Int32).toInt64.toUInt64 &&& Int64.toUInt64 63)).toInt64) &&& 6148914691236517205)).toUInt64 >>> ((2 : Int32).toInt64.toUInt64 &&& Int64.toUInt64 63)).toInt64) &&& 3689348814741910323)) + (((((a0 - (((a0.toUInt64 >>> ((1 : Int32).toInt64.toUInt64 &&& Int64.toUInt64 63)).toInt64) &&& 6148914691236517205)) &&& 3689348814741910323) + ((((a0 - (((a0.toUInt64 >>> ((1 : Int32).toInt64.toUInt64 &&& Int64.toUInt64 63)).toInt64) &&& 6148914691236517205)).toUInt64 >>> ((2 : Int32).toInt64.toUInt64 &&& Int64.toUInt64 63)).toInt64) &&& 3689348814741910323)).toUInt64 >>> ((4 : Int32).toInt64.toUInt64 &&& Int64.toUInt64 63)).toInt64)) &&& 1085102592571150095).toUInt64 >>> ((8 : Int32).toInt64.toUInt64 &&& Int64.toUInt64 63)).toInt64)).toUInt64 >>> ((16 : Int32).toInt64.toUInt64 &&& Int64.toUInt64 63)).toInt64)).toUInt64 >>> ((32 : Int32).toInt64.toUInt64 &&& Int64.toUInt64 63)).toInt64)))]) hx hb dJ13_bitCount_95d88_54 rfl hl (by decide) rfl (fun ls hl => ?_)
  refine lv_lload_n hx hb dJ13_bitCount_95d88_55 rfl (lv_at hl 0 rfl) ?_
  refine lv_l2i hx hb dJ13_bitCount_95d88_56 rfl ?_
  refine lv_bipush (v := 127) hx hb dJ13_bitCount_95d88_57 (by decide) ?_
  refine lv_iand hx hb dJ13_bitCount_95d88_59 ?_
  cases hF
  exact retI C0 hr hlk hW hS dJ13_bitCount_95d88_60
theorem hdsX4_isIn : yX4_isIn.cls ≠ "java/lang/invoke/MethodHandle" ∧ yX4_isIn.cls ≠ "java/lang/invoke/VarHandle" ∧ (parseMethodDescriptor yX4_isIn.desc).map (fun d => d.parameters.length) = some 3 := by decide +kernel
def FX4_isIn (ns nb : Nat) (σ : Sg) (a0 : Int32) (a1 : Int32) (a2 : Int32) : Option (Int32 × Sg) :=
  if a0 < a1 then (some (0, σ)) else (if a2 < a0 then (some (0, σ)) else (some (1, σ)))
set_option maxHeartbeats 4000000 in
set_option maxRecDepth 100000 in
theorem kX4_isIn (l : Launch) (lo : Nat) (g : Gx) (h : Sh) (σ : Sg) (a0 : Int32) (a1 : Int32) (a2 : Int32)  (r : Int32) (σ1 : Sg) (hF : FX4_isIn h.1 h.2.1 σ a0 a1 a2 = some (r, σ1)) : MI l yX4_isIn (ws_ yX4_isIn cX4_isIn 3 (some .boolean)) 0 0 0 0 lo g h [.int a0, .int a1, .int a2] σ r σ1 := by
  refine ofB (own := RX4) (by decide +kernel) rfl (fun p e s m below meth c C0 hr hlk hlo hK hZ hW hS ls hl => ?_) (Nat.le_of_ble_eq_true rfl)
  have hx := C0.1
  have hb := C0.2.1
  have hl : lv_has ls 3 [(0, .int a0), (1, .int a1), (2, .int a2)] := hl
  unfold FX4_isIn at hF
  refine lv_iload_n hx hb dX4_isIn_0 rfl (lv_at hl 0 rfl) ?_
  refine lv_iload_n hx hb dX4_isIn_1 rfl (lv_at hl 1 rfl) ?_
  refine lv_icmp_lt (tgt := 14) hx hb dX4_isIn_2 (by decide) (fun c1 => ?_) (fun c1 => ?_)
  · rw [if_pos c1] at hF
    refine lv_iconst (v := 0) hx hb dX4_isIn_14 (by decide) ?_
    cases hF
    exact retZ C0 hr hlk (Or.inl rfl) hW hS dX4_isIn_15
  · rw [if_neg c1] at hF
    refine lv_iload_n hx hb dX4_isIn_5 rfl (lv_at hl 0 rfl) ?_
    refine lv_iload_n hx hb dX4_isIn_6 rfl (lv_at hl 2 rfl) ?_
    refine lv_icmp_gt (tgt := 14) hx hb dX4_isIn_7 (by decide) (fun c2 => ?_) (fun c2 => ?_)
    · rw [if_pos c2] at hF
      refine lv_iconst (v := 0) hx hb dX4_isIn_14 (by decide) ?_
      cases hF
      exact retZ C0 hr hlk (Or.inl rfl) hW hS dX4_isIn_15
    · rw [if_neg c2] at hF
      refine lv_iconst (v := 1) hx hb dX4_isIn_10 (by decide) ?_
      refine lv_goto (tgt := 15) hx hb dX4_isIn_11 (by decide) ?_
      cases hF
      exact retZ C0 hr hlk (Or.inr rfl) hW hS dX4_isIn_15
theorem hdsX4_remainder : yX4_remainder.cls ≠ "java/lang/invoke/MethodHandle" ∧ yX4_remainder.cls ≠ "java/lang/invoke/VarHandle" ∧ (parseMethodDescriptor yX4_remainder.desc).map (fun d => d.parameters.length) = some 2 := by decide +kernel
def FX4_remainder (ns nb : Nat) (σ : Sg) (a0 : Int32) (a1 : Int32) : Option (Int32 × Sg) :=
  if a1 ≤ 0 then (some (0, σ)) else (if a1 = 0 then none else (some (a0 - a0 / a1 * a1, σ)))
set_option maxHeartbeats 4000000 in
set_option maxRecDepth 100000 in
theorem kX4_remainder (l : Launch) (lo : Nat) (g : Gx) (h : Sh) (σ : Sg) (a0 : Int32) (a1 : Int32)  (r : Int32) (σ1 : Sg) (hF : FX4_remainder h.1 h.2.1 σ a0 a1 = some (r, σ1)) : MI l yX4_remainder (ws_ yX4_remainder cX4_remainder 2 (some .int)) 0 0 0 0 lo g h [.int a0, .int a1] σ r σ1 := by
  refine ofB (own := RX4) (by decide +kernel) rfl (fun p e s m below meth c C0 hr hlk hlo hK hZ hW hS ls hl => ?_) (Nat.le_of_ble_eq_true rfl)
  have hx := C0.1
  have hb := C0.2.1
  have hl : lv_has ls 2 [(0, .int a0), (1, .int a1)] := hl
  unfold FX4_remainder at hF
  refine lv_iload_n hx hb dX4_remainder_0 rfl (lv_at hl 1 rfl) ?_
  refine lv_if_le (tgt := 10) hx hb dX4_remainder_1 (by decide) (fun c1 => ?_) (fun c1 => ?_)
  · rw [if_pos c1] at hF
    refine lv_iconst (v := 0) hx hb dX4_remainder_10 (by decide) ?_
    cases hF
    exact retI C0 hr hlk hW hS dX4_remainder_11
  · rw [if_neg c1] at hF
    refine lv_iload_n hx hb dX4_remainder_4 rfl (lv_at hl 0 rfl) ?_
    refine lv_iload_n hx hb dX4_remainder_5 rfl (lv_at hl 1 rfl) ?_
    obtain ⟨hg, hF⟩ := grd hF
    refine lv_irem hx hb dX4_remainder_6 hg ?_
    refine lv_goto (tgt := 11) hx hb dX4_remainder_7 (by decide) ?_
    cases hF
    exact retI C0 hr hlk hW hS dX4_remainder_11
theorem hdsX4_at : yX4_at.cls ≠ "java/lang/invoke/MethodHandle" ∧ yX4_at.cls ≠ "java/lang/invoke/VarHandle" ∧ (parseMethodDescriptor yX4_at.desc).map (fun d => d.parameters.length) = some 2 := by decide +kernel
def FX4_at (ns nb : Nat) (σ : Sg) (k0 : Nat) (i0 : Nat) (a1 : Int32) : Option (Int32 × Sg) :=
  if a1 < 0 then (some (0, σ)) else (if (Int32.ofNat (aln k0)) ≤ a1 then (some (0, σ)) else (if (a1 < 0 ∨ aln k0 ≤ a1.toNatClampNeg) then none else (some (σ.1 k0 i0 a1.toNatClampNeg, σ))))
set_option maxHeartbeats 4000000 in
set_option maxRecDepth 100000 in
theorem kX4_at (l : Launch) (lo : Nat) (g : Gx) (h : Sh) (σ : Sg) (k0 i0 : Nat) (a1 : Int32) (hk0 : al h k0 i0) (hn0 : aln k0 ≠ 0) (r : Int32) (σ1 : Sg) (hF : FX4_at h.1 h.2.1 σ k0 i0 a1 = some (r, σ1)) : MI l yX4_at (ws_ yX4_at cX4_at 2 (some .int)) 0 0 0 0 lo g h [.ref (h.2.2 k0 i0), .int a1] σ r σ1 := by
  refine ofB (own := RX4) (by decide +kernel) rfl (fun p e s m below meth c C0 hr hlk hlo hK hZ hW hS ls hl => ?_) (Nat.le_of_ble_eq_true rfl)
  have hx := C0.1
  have hb := C0.2.1
  have hl : lv_has ls 2 [(0, .ref (h.2.2 k0 i0)), (1, .int a1)] := hl
  unfold FX4_at at hF
  refine lv_iload_n hx hb dX4_at_0 rfl (lv_at hl 1 rfl) ?_
  refine lv_if_lt (tgt := 16) hx hb dX4_at_1 (by decide) (fun c1 => ?_) (fun c1 => ?_)
  · rw [if_pos c1] at hF
    refine lv_iconst (v := 0) hx hb dX4_at_16 (by decide) ?_
    cases hF
    exact retI C0 hr hlk hW hS dX4_at_17
  · rw [if_neg c1] at hF
    refine lv_iload_n hx hb dX4_at_4 rfl (lv_at hl 1 rfl) ?_
    refine lv_aload_n hx hb dX4_at_5 rfl (lv_at hl 0 rfl) ?_
    refine alen C0 hK hW k0 i0 hk0 hn0 rfl dX4_at_6 ?_
    refine lv_icmp_ge (tgt := 16) hx hb dX4_at_7 (by decide) (fun c2 => ?_) (fun c2 => ?_)
    · rw [if_pos c2] at hF
      refine lv_iconst (v := 0) hx hb dX4_at_16 (by decide) ?_
      cases hF
      exact retI C0 hr hlk hW hS dX4_at_17
    · rw [if_neg c2] at hF
      refine lv_aload_n hx hb dX4_at_10 rfl (lv_at hl 0 rfl) ?_
      refine lv_iload_n hx hb dX4_at_11 rfl (lv_at hl 1 rfl) ?_
      obtain ⟨hg, hF⟩ := grd hF
      refine ald C0 hK hW k0 i0 hk0 hn0 hg dX4_at_12 ?_
      refine lv_goto (tgt := 17) hx hb dX4_at_13 (by decide) ?_
      cases hF
      exact retI C0 hr hlk hW hS dX4_at_17
theorem hdsX4_put : yX4_put.cls ≠ "java/lang/invoke/MethodHandle" ∧ yX4_put.cls ≠ "java/lang/invoke/VarHandle" ∧ (parseMethodDescriptor yX4_put.desc).map (fun d => d.parameters.length) = some 3 := by decide +kernel
def FX4_put (ns nb : Nat) (σ : Sg) (k0 : Nat) (i0 : Nat) (a1 : Int32) (a2 : Int32) : Option Sg :=
  if a1 < 0 then (some σ) else (if (Int32.ofNat (aln k0)) ≤ a1 then (some σ) else (if (a1 < 0 ∨ aln k0 ≤ a1.toNatClampNeg) then none else (some (sI σ k0 i0 a1.toNatClampNeg a2))))
set_option maxHeartbeats 4000000 in
set_option maxRecDepth 100000 in
theorem kX4_put (l : Launch) (lo : Nat) (g : Gx) (h : Sh) (σ : Sg) (k0 i0 : Nat) (a1 : Int32) (a2 : Int32) (hk0 : al h k0 i0) (hn0 : aln k0 ≠ 0) (σ1 : Sg) (hF : FX4_put h.1 h.2.1 σ k0 i0 a1 a2 = some σ1) : MV l yX4_put (ws_ yX4_put cX4_put 3 none) 0 0 0 0 lo g h [.ref (h.2.2 k0 i0), .int a1, .int a2] σ σ1 := by
  refine ofB (own := RX4) (by decide +kernel) rfl (fun p e s m below meth c C0 hr hlk hlo hK hZ hW hS ls hl => ?_) (Nat.le_of_ble_eq_true rfl)
  have hx := C0.1
  have hb := C0.2.1
  have hl : lv_has ls 3 [(0, .ref (h.2.2 k0 i0)), (1, .int a1), (2, .int a2)] := hl
  unfold FX4_put at hF
  refine lv_iload_n hx hb dX4_put_0 rfl (lv_at hl 1 rfl) ?_
  refine lv_if_lt (tgt := 14) hx hb dX4_put_1 (by decide) (fun c1 => ?_) (fun c1 => ?_)
  · rw [if_pos c1] at hF
    cases hF
    exact retV C0 hr hlk hW hS dX4_put_14
  · rw [if_neg c1] at hF
    refine lv_iload_n hx hb dX4_put_4 rfl (lv_at hl 1 rfl) ?_
    refine lv_aload_n hx hb dX4_put_5 rfl (lv_at hl 0 rfl) ?_
    refine alen C0 hK hW k0 i0 hk0 hn0 rfl dX4_put_6 ?_
    refine lv_icmp_ge (tgt := 14) hx hb dX4_put_7 (by decide) (fun c2 => ?_) (fun c2 => ?_)
    · rw [if_pos c2] at hF
      cases hF
      exact retV C0 hr hlk hW hS dX4_put_14
    · rw [if_neg c2] at hF
      refine lv_aload_n hx hb dX4_put_10 rfl (lv_at hl 0 rfl) ?_
      refine lv_iload_n hx hb dX4_put_11 rfl (lv_at hl 1 rfl) ?_
      refine lv_iload_n hx hb dX4_put_12 rfl (lv_at hl 2 rfl) ?_
      obtain ⟨hg, hF⟩ := grd hF
      refine ast C0 hK hW hS k0 i0 hk0 hn0 hg dX4_put_13 (fun H locs hW hS => ?_)
      cases hF
      exact retV C0 hr hlk hW hS dX4_put_14
theorem hdsX4_pairBit : yX4_pairBit.cls ≠ "java/lang/invoke/MethodHandle" ∧ yX4_pairBit.cls ≠ "java/lang/invoke/VarHandle" ∧ (parseMethodDescriptor yX4_pairBit.desc).map (fun d => d.parameters.length) = some 2 := by decide +kernel
def FX4_pairBit (ns nb : Nat) (σ : Sg) (a0 : Int32) (a1 : Int32) : Option (Int32 × Sg) :=
  some (1 <<< ((((mnI a0 a1) * 4) + (mxI a0 a1)) &&& 31), σ)
set_option maxHeartbeats 4000000 in
set_option maxRecDepth 100000 in
theorem kX4_pairBit (l : Launch) (lo : Nat) (g : Gx) (h : Sh) (σ : Sg) (a0 : Int32) (a1 : Int32)  (r : Int32) (σ1 : Sg) (hF : FX4_pairBit h.1 h.2.1 σ a0 a1 = some (r, σ1)) : MI l yX4_pairBit (ws_ yX4_pairBit cX4_pairBit 2 (some .int)) 1 23 0 0 lo g h [.int a0, .int a1] σ r σ1 := by
  refine ofB (own := RX4) (by decide +kernel) rfl (fun p e s m below meth c C0 hr hlk hlo hK hZ hW hS ls hl => ?_) (Nat.le_of_ble_eq_true rfl)
  have hx := C0.1
  have hb := C0.2.1
  have hl : lv_has ls 2 [(0, .int a0), (1, .int a1)] := hl
  unfold FX4_pairBit at hF
  refine lv_iconst (v := 1) hx hb dX4_pairBit_0 (by decide) ?_
  refine lv_iload_n hx hb dX4_pairBit_1 rfl (lv_at hl 0 rfl) ?_
  refine lv_iload_n hx hb dX4_pairBit_2 rfl (lv_at hl 1 rfl) ?_
  refine r_min C0 hl.1 wML_X4_66 (Nat.le_of_ble_eq_true rfl) (Nat.le_of_ble_eq_true rfl) (Nat.le_of_ble_eq_true rfl) (Nat.le_of_ble_eq_true rfl) dX4_pairBit_3 ?_
  refine lv_iconst (v := 4) hx hb dX4_pairBit_6 (by decide) ?_
  refine lv_imul hx hb dX4_pairBit_7 ?_
  refine lv_iload_n hx hb dX4_pairBit_8 rfl (lv_at hl 0 rfl) ?_
  refine lv_iload_n hx hb dX4_pairBit_9 rfl (lv_at hl 1 rfl) ?_
  refine r_max C0 hl.1 wML_X4_262 (Nat.le_of_ble_eq_true rfl) (Nat.le_of_ble_eq_true rfl) (Nat.le_of_ble_eq_true rfl) (Nat.le_of_ble_eq_true rfl) dX4_pairBit_10 ?_
  refine lv_iadd hx hb dX4_pairBit_13 ?_
  refine lv_ishl hx hb dX4_pairBit_14 ?_
  cases hF
  exact retI C0 hr hlk hW hS dX4_pairBit_15
theorem hdsX4_shareBetween : yX4_shareBetween.cls ≠ "java/lang/invoke/MethodHandle" ∧ yX4_shareBetween.cls ≠ "java/lang/invoke/VarHandle" ∧ (parseMethodDescriptor yX4_shareBetween.desc).map (fun d => d.parameters.length) = some 2 := by decide +kernel
def FX4_shareBetween (ns nb : Nat) (σ : Sg) (o0 : Option Nat) (o1 : Option Nat) : Option Sg :=
  oc o0 (oc o1 (some σ) (fun i1 => if i1 < ns then (some σ) else none)) (fun i0 => if i0 < ns then (oc o1 (some σ) (fun i1 => if i1 < ns then (some (sI (sI σ 5 i0 1 ((σ.1 5 i0 1) - (((σ.1 5 i0 1) - (σ.1 5 i1 1)) / 10))) 5 i1 1 (((sI σ 5 i0 1 ((σ.1 5 i0 1) - (((σ.1 5 i0 1) - (σ.1 5 i1 1)) / 10))).1 5 i1 1) + (((σ.1 5 i0 1) - (σ.1 5 i1 1)) / 10)))) else none)) else none)
set_option maxHeartbeats 4000000 in
set_option maxRecDepth 100000 in
theorem kX4_shareBetween (l : Launch) (lo : Nat) (g : Gx) (h : Sh) (σ : Sg) (o0 : Option Nat) (o1 : Option Nat)  (σ1 : Sg) (hF : FX4_shareBetween h.1 h.2.1 σ o0 o1 = some σ1) : MV l yX4_shareBetween (ws_ yX4_shareBetween cX4_shareBetween 3 none) 0 0 0 0 lo g h [va_rf (o0.map (h.2.2 5)), va_rf (o1.map (h.2.2 5))] σ σ1 := by
  refine ofB (own := RX4) (by decide +kernel) rfl (fun p e s m below meth c C0 hr hlk hlo hK hZ hW hS ls hl => ?_) (by cases o0 <;> cases o1 <;> exact Nat.le_of_ble_eq_true rfl)
  have hx := C0.1
  have hb := C0.2.1
  unfold FX4_shareBetween at hF
  cases o0 with
  | none =>
    rw [oc_n] at hF
    cases o1 with
    | none =>
      rw [oc_n] at hF
      have hl : lv_has ls 3 [(0, .null), (1, .null)] := hl
      refine lv_aload_nN hx hb dX4_shareBetween_0 rfl (lv_at hl 0 rfl) ?_
      refine lv_ifnullN (tgt := 41) hx hb dX4_shareBetween_1 (by decide) ?_
      cases hF
      exact retV C0 hr hlk hW hS dX4_shareBetween_41
    | some i1 =>
      rw [oc_s] at hF
      obtain ⟨hi1, hF⟩ := grp hF
      have hl : lv_has ls 3 [(0, .null), (1, .ref (h.2.2 5 i1))] := hl
      refine lv_aload_nN hx hb dX4_shareBetween_0 rfl (lv_at hl 0 rfl) ?_
      refine lv_ifnullN (tgt := 41) hx hb dX4_shareBetween_1 (by decide) ?_
      cases hF
      exact retV C0 hr hlk hW hS dX4_shareBetween_41
  | some i0 =>
    rw [oc_s] at hF
    obtain ⟨hi0, hF⟩ := grp hF
    cases o1 with
    | none =>
      rw [oc_n] at hF
      have hl : lv_has ls 3 [(0, .ref (h.2.2 5 i0)), (1, .null)] := hl
      refine lv_aload_n hx hb dX4_shareBetween_0 rfl (lv_at hl 0 rfl) ?_
      refine lv_ifnull hx hb dX4_shareBetween_1 ?_
      refine lv_aload_nN hx hb dX4_shareBetween_4 rfl (lv_at hl 1 rfl) ?_
      refine lv_ifnullN (tgt := 41) hx hb dX4_shareBetween_5 (by decide) ?_
      cases hF
      exact retV C0 hr hlk hW hS dX4_shareBetween_41
    | some i1 =>
      rw [oc_s] at hF
      obtain ⟨hi1, hF⟩ := grp hF
      have hl : lv_has ls 3 [(0, .ref (h.2.2 5 i0)), (1, .ref (h.2.2 5 i1))] := hl
      refine lv_aload_n hx hb dX4_shareBetween_0 rfl (lv_at hl 0 rfl) ?_
      refine lv_ifnull hx hb dX4_shareBetween_1 ?_
      refine lv_aload_n hx hb dX4_shareBetween_4 rfl (lv_at hl 1 rfl) ?_
      refine lv_ifnull hx hb dX4_shareBetween_5 ?_
      refine lv_aload_n hx hb dX4_shareBetween_8 rfl (lv_at hl 0 rfl) ?_
      refine get5 C0 hK hW i0 (al5 hi0) 1 (by decide) wFL_X4_63 rfl rfl dX4_shareBetween_9 ?_
      refine lv_aload_n hx hb dX4_shareBetween_12 rfl (lv_at hl 1 rfl) ?_
      refine get5 C0 hK hW i1 (al5 hi1) 1 (by decide) wFL_X4_63 rfl rfl dX4_shareBetween_13 ?_
      refine lv_isub hx hb dX4_shareBetween_16 ?_
      refine lv_bipush (v := 10) hx hb dX4_shareBetween_17 (by decide) ?_
      refine lv_idiv hx hb dX4_shareBetween_19 (by decide) ?_
      refine lv_istore_n (lv' := [(2, .int (((σ.1 5 i0 1) - (σ.1 5 i1 1)) / 10)), (0, .ref (h.2.2 5 i0)), (1, .ref (h.2.2 5 i1))]) hx hb dX4_shareBetween_20 rfl hl (by decide) rfl (fun ls hl => ?_)
      refine lv_aload_n hx hb dX4_shareBetween_21 rfl (lv_at hl 1 rfl) ?_
      refine lv_dup hx hb dX4_shareBetween_22 rfl ?_
      refine get5 C0 hK hW i0 (al5 hi0) 1 (by decide) wFL_X4_63 rfl rfl dX4_shareBetween_23 ?_
      refine lv_iload_n hx hb dX4_shareBetween_26 rfl (lv_at hl 0 rfl) ?_
      refine lv_isub hx hb dX4_shareBetween_27 ?_
      refine put5_1 C0 hK hW hS i0 (al5 hi0) wFL_X4_63 dX4_shareBetween_28 (fun H locs hW hS => ?_)
      refine lv_aload_n hx hb dX4_shareBetween_31 rfl (lv_at hl 2 rfl) ?_
      refine lv_dup hx hb dX4_shareBetween_32 rfl ?_
      refine get5 C0 hK hW i1 (al5 hi1) 1 (by decide) wFL_X4_63 rfl rfl dX4_shareBetween_33 ?_
      refine lv_iload_n hx hb dX4_shareBetween_36 rfl (lv_at hl 0 rfl) ?_
      refine lv_iadd hx hb dX4_shareBetween_37 ?_
      refine put5_1 C0 hK hW hS i1 (al5 hi1) wFL_X4_63 dX4_shareBetween_38 (fun H locs hW hS => ?_)
      cases hF
      exact retV C0 hr hlk hW hS dX4_shareBetween_41
theorem hdX3_speedUnder : yX3_speedUnder.cls = RX3 ∧ yX3_speedUnder.cls ≠ "java/lang/invoke/MethodHandle" ∧ yX3_speedUnder.cls ≠ "java/lang/invoke/VarHandle" ∧ (parseMethodDescriptor yX3_speedUnder.desc).map (fun d => d.parameters.length) = some 1 := by decide +kernel
def FX3_speedUnder (ns nb : Nat) (σ : Sg) (i0 : Nat) (a1 : Int32) : Option (Int32 × Sg) :=
  if (200 * a1) ≤ 0 then (some ((mnI (mnI (mxI 0 1) 400) (σ.1 5 i0 1)), σ)) else (if (200 * a1) = 0 then none else (some ((mnI (mnI (mxI (((σ.1 5 i0 0) * (σ.1 5 i0 1)) / (200 * a1)) 1) 400) (σ.1 5 i0 1)), σ)))
set_option maxHeartbeats 4000000 in
set_option maxRecDepth 100000 in
theorem kX3_speedUnder (l : Launch) (lo : Nat) (g : Gx) (h : Sh) (σ : Sg) (i0 : Nat) (a1 : Int32) (hi0 : i0 < h.1) (r : Int32) (σ1 : Sg) (hF : FX3_speedUnder h.1 h.2.1 σ i0 a1 = some (r, σ1)) : MI l yX3_speedUnder (ws_ yX3_speedUnder cX3_speedUnder 4 (some .int)) 1 23 0 0 lo g h [.ref (h.2.2 5 i0), .int a1] σ r σ1 := by
  refine ofB (own := RX3) (by decide +kernel) rfl (fun p e s m below meth c C0 hr hlk hlo hK hZ hW hS ls hl => ?_) (Nat.le_of_ble_eq_true rfl)
  have hx := C0.1
  have hb := C0.2.1
  have hl : lv_has ls 4 [(0, .ref (h.2.2 5 i0)), (1, .int a1)] := hl
  unfold FX3_speedUnder at hF
  refine lv_sipush (v := 200) hx hb dX3_speedUnder_0 (by decide) ?_
  refine lv_iload_n hx hb dX3_speedUnder_3 rfl (lv_at hl 1 rfl) ?_
  refine lv_imul hx hb dX3_speedUnder_4 ?_
  refine lv_istore_n (lv' := [(2, .int (200 * a1)), (0, .ref (h.2.2 5 i0)), (1, .int a1)]) hx hb dX3_speedUnder_5 rfl hl (by decide) rfl (fun ls hl => ?_)
  refine lv_iload_n hx hb dX3_speedUnder_6 rfl (lv_at hl 0 rfl) ?_
  refine lv_if_le (tgt := 24) hx hb dX3_speedUnder_7 (by decide) (fun c1 => ?_) (fun c1 => ?_)
  · rw [if_pos c1] at hF
    refine lv_iconst (v := 0) hx hb dX3_speedUnder_24 (by decide) ?_
    refine lv_istore_n (lv' := [(3, .int 0), (2, .int (200 * a1)), (0, .ref (h.2.2 5 i0)), (1, .int a1)]) hx hb dX3_speedUnder_25 rfl hl (by decide) rfl (fun ls hl => ?_)
    refine lv_iload_n hx hb dX3_speedUnder_26 rfl (lv_at hl 0 rfl) ?_
    refine lv_iconst (v := 1) hx hb dX3_speedUnder_27 (by decide) ?_
    refine r_max C0 hl.1 wML_X3_34 (Nat.le_of_ble_eq_true rfl) (Nat.le_of_ble_eq_true rfl) (Nat.le_of_ble_eq_true rfl) (Nat.le_of_ble_eq_true rfl) dX3_speedUnder_28 ?_
    refine lv_sipush (v := 400) hx hb dX3_speedUnder_31 (by decide) ?_
    refine r_min C0 hl.1 wML_X3_40 (Nat.le_of_ble_eq_true rfl) (Nat.le_of_ble_eq_true rfl) (Nat.le_of_ble_eq_true rfl) (Nat.le_of_ble_eq_true rfl) dX3_speedUnder_34 ?_
    refine lv_aload_n hx hb dX3_speedUnder_37 rfl (lv_at hl 2 rfl) ?_
    refine get5 C0 hK hW i0 (al5 hi0) 1 (by decide) wFL_X3_15 rfl rfl dX3_speedUnder_38 ?_
    refine r_min C0 hl.1 wML_X3_40 (Nat.le_of_ble_eq_true rfl) (Nat.le_of_ble_eq_true rfl) (Nat.le_of_ble_eq_true rfl) (Nat.le_of_ble_eq_true rfl) dX3_speedUnder_41 ?_
    cases hF
    exact retI C0 hr hlk hW hS dX3_speedUnder_44
  · rw [if_neg c1] at hF
    refine lv_aload_n hx hb dX3_speedUnder_10 rfl (lv_at hl 1 rfl) ?_
    refine get5 C0 hK hW i0 (al5 hi0) 0 (by decide) wFL_X3_9 rfl rfl dX3_speedUnder_11 ?_
    refine lv_aload_n hx hb dX3_speedUnder_14 rfl (lv_at hl 1 rfl) ?_
    refine get5 C0 hK hW i0 (al5 hi0) 1 (by decide) wFL_X3_15 rfl rfl dX3_speedUnder_15 ?_
    refine lv_imul hx hb dX3_speedUnder_18 ?_
    refine lv_iload_n hx hb dX3_speedUnder_19 rfl (lv_at hl 0 rfl) ?_
    obtain ⟨hg, hF⟩ := grd hF
    refine lv_idiv hx hb dX3_speedUnder_20 hg ?_
    refine lv_goto (tgt := 25) hx hb dX3_speedUnder_21 (by decide) ?_
    refine lv_istore_n (lv' := [(3, .int (((σ.1 5 i0 0) * (σ.1 5 i0 1)) / (200 * a1))), (2, .int (200 * a1)), (0, .ref (h.2.2 5 i0)), (1, .int a1)]) hx hb dX3_speedUnder_25 rfl hl (by decide) rfl (fun ls hl => ?_)
    refine lv_iload_n hx hb dX3_speedUnder_26 rfl (lv_at hl 0 rfl) ?_
    refine lv_iconst (v := 1) hx hb dX3_speedUnder_27 (by decide) ?_
    refine r_max C0 hl.1 wML_X3_34 (Nat.le_of_ble_eq_true rfl) (Nat.le_of_ble_eq_true rfl) (Nat.le_of_ble_eq_true rfl) (Nat.le_of_ble_eq_true rfl) dX3_speedUnder_28 ?_
    refine lv_sipush (v := 400) hx hb dX3_speedUnder_31 (by decide) ?_
    refine r_min C0 hl.1 wML_X3_40 (Nat.le_of_ble_eq_true rfl) (Nat.le_of_ble_eq_true rfl) (Nat.le_of_ble_eq_true rfl) (Nat.le_of_ble_eq_true rfl) dX3_speedUnder_34 ?_
    refine lv_aload_n hx hb dX3_speedUnder_37 rfl (lv_at hl 2 rfl) ?_
    refine get5 C0 hK hW i0 (al5 hi0) 1 (by decide) wFL_X3_15 rfl rfl dX3_speedUnder_38 ?_
    refine r_min C0 hl.1 wML_X3_40 (Nat.le_of_ble_eq_true rfl) (Nat.le_of_ble_eq_true rfl) (Nat.le_of_ble_eq_true rfl) (Nat.le_of_ble_eq_true rfl) dX3_speedUnder_41 ?_
    cases hF
    exact retI C0 hr hlk hW hS dX3_speedUnder_44
theorem hdX3_turn : yX3_turn.cls = RX3 ∧ yX3_turn.cls ≠ "java/lang/invoke/MethodHandle" ∧ yX3_turn.cls ≠ "java/lang/invoke/VarHandle" ∧ (parseMethodDescriptor yX3_turn.desc).map (fun d => d.parameters.length) = some 1 := by decide +kernel
def FX3_turn (ns nb : Nat) (σ : Sg) (i0 : Nat) (a1 : Int32) : Option Sg :=
  some (sI (sL (sI σ 5 i0 3 a1) 5 i0 2 (((sI σ 5 i0 3 a1).2 5 i0 2) + a1.toInt64)) 5 i0 1 (((sL (sI σ 5 i0 3 a1) 5 i0 2 (((sI σ 5 i0 3 a1).2 5 i0 2) + a1.toInt64)).1 5 i0 1) - a1))
set_option maxHeartbeats 4000000 in
set_option maxRecDepth 100000 in
theorem kX3_turn (l : Launch) (lo : Nat) (g : Gx) (h : Sh) (σ : Sg) (i0 : Nat) (a1 : Int32) (hi0 : i0 < h.1) (σ1 : Sg) (hF : FX3_turn h.1 h.2.1 σ i0 a1 = some σ1) : MV l yX3_turn (ws_ yX3_turn cX3_turn 2 none) 0 0 0 0 lo g h [.ref (h.2.2 5 i0), .int a1] σ σ1 := by
  refine ofB (own := RX3) (by decide +kernel) rfl (fun p e s m below meth c C0 hr hlk hlo hK hZ hW hS ls hl => ?_) (Nat.le_of_ble_eq_true rfl)
  have hx := C0.1
  have hb := C0.2.1
  have hl : lv_has ls 2 [(0, .ref (h.2.2 5 i0)), (1, .int a1)] := hl
  unfold FX3_turn at hF
  refine lv_aload_n hx hb dX3_turn_0 rfl (lv_at hl 0 rfl) ?_
  refine lv_iload_n hx hb dX3_turn_1 rfl (lv_at hl 1 rfl) ?_
  refine put5_3 C0 hK hW hS i0 (al5 hi0) wFL_X3_28 dX3_turn_2 (fun H locs hW hS => ?_)
  refine lv_aload_n hx hb dX3_turn_5 rfl (lv_at hl 0 rfl) ?_
  refine lv_dup hx hb dX3_turn_6 rfl ?_
  refine get5 C0 hK hW i0 (al5 hi0) 2 (by decide) wFL_X3_21 rfl rfl dX3_turn_7 ?_
  refine lv_iload_n hx hb dX3_turn_10 rfl (lv_at hl 1 rfl) ?_
  refine lv_i2l hx hb dX3_turn_11 rfl ?_
  refine lv_ladd hx hb dX3_turn_12 ?_
  refine put5_2 C0 hK hW hS i0 (al5 hi0) wFL_X3_21 dX3_turn_13 (fun H locs hW hS => ?_)
  refine lv_aload_n hx hb dX3_turn_16 rfl (lv_at hl 0 rfl) ?_
  refine lv_dup hx hb dX3_turn_17 rfl ?_
  refine get5 C0 hK hW i0 (al5 hi0) 1 (by decide) wFL_X3_15 rfl rfl dX3_turn_18 ?_
  refine lv_iload_n hx hb dX3_turn_21 rfl (lv_at hl 1 rfl) ?_
  refine lv_isub hx hb dX3_turn_22 ?_
  refine put5_1 C0 hK hW hS i0 (al5 hi0) wFL_X3_15 dX3_turn_23 (fun H locs hW hS => ?_)
  cases hF
  exact retV C0 hr hlk hW hS dX3_turn_26
theorem hdX3_payForNote : yX3_payForNote.cls = RX3 ∧ yX3_payForNote.cls ≠ "java/lang/invoke/MethodHandle" ∧ yX3_payForNote.cls ≠ "java/lang/invoke/VarHandle" ∧ (parseMethodDescriptor yX3_payForNote.desc).map (fun d => d.parameters.length) = some 0 := by decide +kernel
def FX3_payForNote (ns nb : Nat) (σ : Sg) (i0 : Nat) : Option Sg :=
  some (sI σ 5 i0 1 ((σ.1 5 i0 1) - (mnI 10 (σ.1 5 i0 1))))
set_option maxHeartbeats 4000000 in
set_option maxRecDepth 100000 in
theorem kX3_payForNote (l : Launch) (lo : Nat) (g : Gx) (h : Sh) (σ : Sg) (i0 : Nat) (hi0 : i0 < h.1) (σ1 : Sg) (hF : FX3_payForNote h.1 h.2.1 σ i0 = some σ1) : MV l yX3_payForNote (ws_ yX3_payForNote cX3_payForNote 1 none) 1 23 0 0 lo g h [.ref (h.2.2 5 i0)] σ σ1 := by
  refine ofB (own := RX3) (by decide +kernel) rfl (fun p e s m below meth c C0 hr hlk hlo hK hZ hW hS ls hl => ?_) (Nat.le_of_ble_eq_true rfl)
  have hx := C0.1
  have hb := C0.2.1
  have hl : lv_has ls 1 [(0, .ref (h.2.2 5 i0))] := hl
  unfold FX3_payForNote at hF
  refine lv_aload_n hx hb dX3_payForNote_0 rfl (lv_at hl 0 rfl) ?_
  refine lv_dup hx hb dX3_payForNote_1 rfl ?_
  refine get5 C0 hK hW i0 (al5 hi0) 1 (by decide) wFL_X3_15 rfl rfl dX3_payForNote_2 ?_
  refine lv_bipush (v := 10) hx hb dX3_payForNote_5 (by decide) ?_
  refine lv_aload_n hx hb dX3_payForNote_7 rfl (lv_at hl 0 rfl) ?_
  refine get5 C0 hK hW i0 (al5 hi0) 1 (by decide) wFL_X3_15 rfl rfl dX3_payForNote_8 ?_
  refine r_min C0 hl.1 wML_X3_40 (Nat.le_of_ble_eq_true rfl) (Nat.le_of_ble_eq_true rfl) (Nat.le_of_ble_eq_true rfl) (Nat.le_of_ble_eq_true rfl) dX3_payForNote_11 ?_
  refine lv_isub hx hb dX3_payForNote_14 ?_
  refine put5_1 C0 hK hW hS i0 (al5 hi0) wFL_X3_15 dX3_payForNote_15 (fun H locs hW hS => ?_)
  cases hF
  exact retV C0 hr hlk hW hS dX3_payForNote_18
theorem hdX2_hear : yX2_hear.cls = RX2 ∧ yX2_hear.cls ≠ "java/lang/invoke/MethodHandle" ∧ yX2_hear.cls ≠ "java/lang/invoke/VarHandle" ∧ (parseMethodDescriptor yX2_hear.desc).map (fun d => d.parameters.length) = some 4 := by decide +kernel
def FX2_hear (ns nb : Nat) (σ : Sg) (a1 : Int32) (a2 : Int32) (a3 : Int32) (a4 : Int32) : Option Sg :=
  if 250 ≤ ((sI σ 3 0 2 ((σ.1 3 0 2) + 1)).1 3 0 1) then (some (sI σ 3 0 2 ((σ.1 3 0 2) + 1))) else ((FX4_put ns nb (sI σ 3 0 2 ((σ.1 3 0 2) + 1)) 4 0 (((sI σ 3 0 2 ((σ.1 3 0 2) + 1)).1 3 0 1) * 4) a1).bind fun z2 => (FX4_put ns nb z2 4 0 ((((sI σ 3 0 2 ((σ.1 3 0 2) + 1)).1 3 0 1) * 4) + 1) a2).bind fun z3 => (FX4_put ns nb z3 4 0 ((((sI σ 3 0 2 ((σ.1 3 0 2) + 1)).1 3 0 1) * 4) + 2) a3).bind fun z4 => (FX4_put ns nb z4 4 0 ((((sI σ 3 0 2 ((σ.1 3 0 2) + 1)).1 3 0 1) * 4) + 3) a4).bind fun z5 => some (sI z5 3 0 1 ((z5.1 3 0 1) + 1)))
set_option maxHeartbeats 4000000 in
set_option maxRecDepth 100000 in
theorem kX2_hear (l : Launch) (lo : Nat) (g : Gx) (h : Sh) (σ : Sg) (a1 : Int32) (a2 : Int32) (a3 : Int32) (a4 : Int32)  (σ1 : Sg) (hF : FX2_hear h.1 h.2.1 σ a1 a2 a3 a4 = some σ1) : MV l yX2_hear (ws_ yX2_hear cX2_hear 6 none) 1 22 0 0 lo g h [.ref (h.2.2 3 0), .int a1, .int a2, .int a3, .int a4] σ σ1 := by
  refine ofB (own := RX2) (by decide +kernel) rfl (fun p e s m below meth c C0 hr hlk hlo hK hZ hW hS ls hl => ?_) (Nat.le_of_ble_eq_true rfl)
  have hx := C0.1
  have hb := C0.2.1
  have hl : lv_has ls 6 [(0, .ref (h.2.2 3 0)), (1, .int a1), (2, .int a2), (3, .int a3), (4, .int a4)] := hl
  unfold FX2_hear at hF
  refine lv_aload_n hx hb dX2_hear_0 rfl (lv_at hl 0 rfl) ?_
  refine lv_dup hx hb dX2_hear_1 rfl ?_
  refine get3 C0 hK hW 0 (al0 h 3 (by decide)) 2 (by decide) wFL_X2_22 rfl rfl dX2_hear_2 ?_
  refine lv_iconst (v := 1) hx hb dX2_hear_5 (by decide) ?_
  refine lv_iadd hx hb dX2_hear_6 ?_
  refine put3_2 C0 hK hW hS 0 (al0 h 3 (by decide)) wFL_X2_22 dX2_hear_7 (fun H locs hW hS => ?_)
  refine lv_aload_n hx hb dX2_hear_10 rfl (lv_at hl 0 rfl) ?_
  refine get3 C0 hK hW 0 (al0 h 3 (by decide)) 1 (by decide) wFL_X2_15 rfl rfl dX2_hear_11 ?_
  refine lv_sipush (v := 250) hx hb dX2_hear_14 (by decide) ?_
  refine lv_icmp_ge (tgt := 85) hx hb dX2_hear_17 (by decide) (fun c1 => ?_) (fun c1 => ?_)
  · rw [if_pos c1] at hF
    cases hF
    exact retV C0 hr hlk hW hS dX2_hear_85
  · rw [if_neg c1] at hF
    refine lv_aload_n hx hb dX2_hear_20 rfl (lv_at hl 0 rfl) ?_
    refine get3 C0 hK hW 0 (al0 h 3 (by decide)) 1 (by decide) wFL_X2_15 rfl rfl dX2_hear_21 ?_
    refine lv_iconst (v := 4) hx hb dX2_hear_24 (by decide) ?_
    refine lv_imul hx hb dX2_hear_25 ?_
    refine lv_istore (lv' := [(5, .int (((sI σ 3 0 2 ((σ.1 3 0 2) + 1)).1 3 0 1) * 4)), (0, .ref (h.2.2 3 0)), (1, .int a1), (2, .int a2), (3, .int a3), (4, .int a4)]) hx hb dX2_hear_26 hl (by decide) rfl (fun ls hl => ?_)
    refine lv_aload_n hx hb dX2_hear_28 rfl (lv_at hl 1 rfl) ?_
    refine get3 C0 hK hW 0 (al0 h 3 (by decide)) 0 (by decide) wFL_X2_9 rfl rfl dX2_hear_29 ?_
    refine lv_iload hx hb dX2_hear_32 (lv_at hl 0 rfl) ?_
    refine lv_iload_n hx hb dX2_hear_34 rfl (lv_at hl 2 rfl) ?_
    obtain ⟨z2, hz2, hF⟩ := bnd hF
    refine inV (runN (host := "BirdParlour") C0 hlo hK hZ hW hS (kX4_put l lo g h _ 4 0 (((sI σ 3 0 2 ((σ.1 3 0 2) + 1)).1 3 0 1) * 4) a1 (al0 h 4 (by decide)) (by decide) _ hz2) wCO_X4_put (by decide +kernel) wST_X4_put wIN_X4 hdsX4_put ⟨Nat.le_of_ble_eq_true rfl, Nat.le_of_ble_eq_true rfl⟩ rfl hl.1 rfl (Nat.le_of_ble_eq_true rfl) dX2_hear_35 ⟨Nat.le_of_ble_eq_true rfl, Nat.le_of_ble_eq_true rfl⟩) hS (fun H locs hW hS => ?_)
    refine lv_aload_n hx hb dX2_hear_38 rfl (lv_at hl 1 rfl) ?_
    refine get3 C0 hK hW 0 (al0 h 3 (by decide)) 0 (by decide) wFL_X2_9 rfl rfl dX2_hear_39 ?_
    refine lv_iload hx hb dX2_hear_42 (lv_at hl 0 rfl) ?_
    refine lv_iconst (v := 1) hx hb dX2_hear_44 (by decide) ?_
    refine lv_iadd hx hb dX2_hear_45 ?_
    refine lv_iload_n hx hb dX2_hear_46 rfl (lv_at hl 3 rfl) ?_
    obtain ⟨z3, hz3, hF⟩ := bnd hF
    refine inV (runN (host := "BirdParlour") C0 hlo hK hZ hW hS (kX4_put l lo g h _ 4 0 ((((sI σ 3 0 2 ((σ.1 3 0 2) + 1)).1 3 0 1) * 4) + 1) a2 (al0 h 4 (by decide)) (by decide) _ hz3) wCO_X4_put (by decide +kernel) wST_X4_put wIN_X4 hdsX4_put ⟨Nat.le_of_ble_eq_true rfl, Nat.le_of_ble_eq_true rfl⟩ rfl hl.1 rfl (Nat.le_of_ble_eq_true rfl) dX2_hear_47 ⟨Nat.le_of_ble_eq_true rfl, Nat.le_of_ble_eq_true rfl⟩) hS (fun H locs hW hS => ?_)
    refine lv_aload_n hx hb dX2_hear_50 rfl (lv_at hl 1 rfl) ?_
    refine get3 C0 hK hW 0 (al0 h 3 (by decide)) 0 (by decide) wFL_X2_9 rfl rfl dX2_hear_51 ?_
    refine lv_iload hx hb dX2_hear_54 (lv_at hl 0 rfl) ?_
    refine lv_iconst (v := 2) hx hb dX2_hear_56 (by decide) ?_
    refine lv_iadd hx hb dX2_hear_57 ?_
    refine lv_iload_n hx hb dX2_hear_58 rfl (lv_at hl 4 rfl) ?_
    obtain ⟨z4, hz4, hF⟩ := bnd hF
    refine inV (runN (host := "BirdParlour") C0 hlo hK hZ hW hS (kX4_put l lo g h _ 4 0 ((((sI σ 3 0 2 ((σ.1 3 0 2) + 1)).1 3 0 1) * 4) + 2) a3 (al0 h 4 (by decide)) (by decide) _ hz4) wCO_X4_put (by decide +kernel) wST_X4_put wIN_X4 hdsX4_put ⟨Nat.le_of_ble_eq_true rfl, Nat.le_of_ble_eq_true rfl⟩ rfl hl.1 rfl (Nat.le_of_ble_eq_true rfl) dX2_hear_59 ⟨Nat.le_of_ble_eq_true rfl, Nat.le_of_ble_eq_true rfl⟩) hS (fun H locs hW hS => ?_)
    refine lv_aload_n hx hb dX2_hear_62 rfl (lv_at hl 1 rfl) ?_
    refine get3 C0 hK hW 0 (al0 h 3 (by decide)) 0 (by decide) wFL_X2_9 rfl rfl dX2_hear_63 ?_
    refine lv_iload hx hb dX2_hear_66 (lv_at hl 0 rfl) ?_
    refine lv_iconst (v := 3) hx hb dX2_hear_68 (by decide) ?_
    refine lv_iadd hx hb dX2_hear_69 ?_
    refine lv_iload hx hb dX2_hear_70 (lv_at hl 5 rfl) ?_
    obtain ⟨z5, hz5, hF⟩ := bnd hF
    refine inV (runN (host := "BirdParlour") C0 hlo hK hZ hW hS (kX4_put l lo g h _ 4 0 ((((sI σ 3 0 2 ((σ.1 3 0 2) + 1)).1 3 0 1) * 4) + 3) a4 (al0 h 4 (by decide)) (by decide) _ hz5) wCO_X4_put (by decide +kernel) wST_X4_put wIN_X4 hdsX4_put ⟨Nat.le_of_ble_eq_true rfl, Nat.le_of_ble_eq_true rfl⟩ rfl hl.1 rfl (Nat.le_of_ble_eq_true rfl) dX2_hear_72 ⟨Nat.le_of_ble_eq_true rfl, Nat.le_of_ble_eq_true rfl⟩) hS (fun H locs hW hS => ?_)
    refine lv_aload_n hx hb dX2_hear_75 rfl (lv_at hl 1 rfl) ?_
    refine lv_dup hx hb dX2_hear_76 rfl ?_
    refine get3 C0 hK hW 0 (al0 h 3 (by decide)) 1 (by decide) wFL_X2_15 rfl rfl dX2_hear_77 ?_
    refine lv_iconst (v := 1) hx hb dX2_hear_80 (by decide) ?_
    refine lv_iadd hx hb dX2_hear_81 ?_
    refine put3_1 C0 hK hW hS 0 (al0 h 3 (by decide)) wFL_X2_15 dX2_hear_82 (fun H locs hW hS => ?_)
    cases hF
    exact retV C0 hr hlk hW hS dX2_hear_85
theorem hdX2_told : yX2_told.cls = RX2 ∧ yX2_told.cls ≠ "java/lang/invoke/MethodHandle" ∧ yX2_told.cls ≠ "java/lang/invoke/VarHandle" ∧ (parseMethodDescriptor yX2_told.desc).map (fun d => d.parameters.length) = some 2 := by decide +kernel
def FX2_told (ns nb : Nat) (σ : Sg) (a1 : Int32) (a2 : Int32) : Option (Int32 × Sg) :=
  (FX4_at ns nb σ 4 0 ((a1 * 4) + a2)).bind fun z1 => some (z1.1, z1.2)
set_option maxHeartbeats 4000000 in
set_option maxRecDepth 100000 in
theorem kX2_told (l : Launch) (lo : Nat) (g : Gx) (h : Sh) (σ : Sg) (a1 : Int32) (a2 : Int32)  (r : Int32) (σ1 : Sg) (hF : FX2_told h.1 h.2.1 σ a1 a2 = some (r, σ1)) : MI l yX2_told (ws_ yX2_told cX2_told 3 (some .int)) 1 21 0 0 lo g h [.ref (h.2.2 3 0), .int a1, .int a2] σ r σ1 := by
  refine ofB (own := RX2) (by decide +kernel) rfl (fun p e s m below meth c C0 hr hlk hlo hK hZ hW hS ls hl => ?_) (Nat.le_of_ble_eq_true rfl)
  have hx := C0.1
  have hb := C0.2.1
  have hl : lv_has ls 3 [(0, .ref (h.2.2 3 0)), (1, .int a1), (2, .int a2)] := hl
  unfold FX2_told at hF
  refine lv_aload_n hx hb dX2_told_0 rfl (lv_at hl 0 rfl) ?_
  refine get3 C0 hK hW 0 (al0 h 3 (by decide)) 0 (by decide) wFL_X2_9 rfl rfl dX2_told_1 ?_
  refine lv_iload_n hx hb dX2_told_4 rfl (lv_at hl 1 rfl) ?_
  refine lv_iconst (v := 4) hx hb dX2_told_5 (by decide) ?_
  refine lv_imul hx hb dX2_told_6 ?_
  refine lv_iload_n hx hb dX2_told_7 rfl (lv_at hl 2 rfl) ?_
  refine lv_iadd hx hb dX2_told_8 ?_
  obtain ⟨z1, hz1, hF⟩ := bnd hF
  refine inI (runN (host := "BirdParlour") C0 hlo hK hZ hW hS (kX4_at l lo g h _ 4 0 ((a1 * 4) + a2) (al0 h 4 (by decide)) (by decide) _ _ hz1) wCO_X4_at (by decide +kernel) wST_X4_at wIN_X4 hdsX4_at ⟨Nat.le_of_ble_eq_true rfl, Nat.le_of_ble_eq_true rfl⟩ rfl hl.1 rfl (Nat.le_of_ble_eq_true rfl) dX2_told_9 ⟨Nat.le_of_ble_eq_true rfl, Nat.le_of_ble_eq_true rfl⟩) hS (fun H locs hW hS => ?_)
  cases hF
  exact retI C0 hr hlk hW hS dX2_told_12
theorem hdX2_clearAll : yX2_clearAll.cls = RX2 ∧ yX2_clearAll.cls ≠ "java/lang/invoke/MethodHandle" ∧ yX2_clearAll.cls ≠ "java/lang/invoke/VarHandle" ∧ (parseMethodDescriptor yX2_clearAll.desc).map (fun d => d.parameters.length) = some 0 := by decide +kernel
def FX2_clearAll (ns nb : Nat) (σ : Sg)  : Option Sg :=
  some (sI (sI σ 3 0 1 0) 3 0 2 0)
set_option maxHeartbeats 4000000 in
set_option maxRecDepth 100000 in
theorem kX2_clearAll (l : Launch) (lo : Nat) (g : Gx) (h : Sh) (σ : Sg)   (σ1 : Sg) (hF : FX2_clearAll h.1 h.2.1 σ  = some σ1) : MV l yX2_clearAll (ws_ yX2_clearAll cX2_clearAll 1 none) 0 0 0 0 lo g h [.ref (h.2.2 3 0)] σ σ1 := by
  refine ofB (own := RX2) (by decide +kernel) rfl (fun p e s m below meth c C0 hr hlk hlo hK hZ hW hS ls hl => ?_) (Nat.le_of_ble_eq_true rfl)
  have hx := C0.1
  have hb := C0.2.1
  have hl : lv_has ls 1 [(0, .ref (h.2.2 3 0))] := hl
  unfold FX2_clearAll at hF
  refine lv_aload_n hx hb dX2_clearAll_0 rfl (lv_at hl 0 rfl) ?_
  refine lv_iconst (v := 0) hx hb dX2_clearAll_1 (by decide) ?_
  refine put3_1 C0 hK hW hS 0 (al0 h 3 (by decide)) wFL_X2_15 dX2_clearAll_2 (fun H locs hW hS => ?_)
  refine lv_aload_n hx hb dX2_clearAll_5 rfl (lv_at hl 0 rfl) ?_
  refine lv_iconst (v := 0) hx hb dX2_clearAll_6 (by decide) ?_
  refine put3_2 C0 hK hW hS 0 (al0 h 3 (by decide)) wFL_X2_22 dX2_clearAll_7 (fun H locs hW hS => ?_)
  cases hF
  exact retV C0 hr hlk hW hS dX2_clearAll_10
