theorem hdX4_wind : yX4_wind.cls = RX4 ∧ yX4_wind.cls ≠ "java/lang/invoke/MethodHandle" ∧ yX4_wind.cls ≠ "java/lang/invoke/VarHandle" ∧ (parseMethodDescriptor yX4_wind.desc).map (fun d => d.parameters.length) = some 2 := by decide +kernel
def FX4_wind (ns nb : Nat) (σ : Sg) (a1 : Int32) (a2 : Int32) : Option ((Nat ⊕ Int32) × Sg) :=
  (FX4_springAt ns nb σ a1).bind fun z1 => oc z1.1 (some (.inl 1, z1.2)) (fun iz1 => if iz1 < ns then ((FX4_isIn ns nb z1.2 a2 1 200000).bind fun z2 => if z2.1 = 0 then (some (.inl 2, z2.2)) else (some (.inr ((sI z2.2 5 iz1 1 (mnI ((z2.2.1 5 iz1 1) + a2) 200000)).1 5 iz1 1), (sI z2.2 5 iz1 1 (mnI ((z2.2.1 5 iz1 1) + a2) 200000))))) else none)
set_option maxHeartbeats 4000000 in
set_option maxRecDepth 100000 in
theorem kX4_wind (l : Launch) (hnt : l.stackTraces = false) (lo : Nat) (g : Gx) (h : Sh) (σ : Sg) (a1 : Int32) (a2 : Int32)  (res : (Nat ⊕ Int32) × Sg) (hF : FX4_wind h.1 h.2.1 σ a1 a2 = some res) : MX l yX4_wind (ws_ yX4_wind cX4_wind 4 (some .int)) 6 130 1 6 lo g h [.ref (h.2.2 0 0), .int a1, .int a2] σ res := by
  refine ofX (own := RX4) (by decide +kernel) rfl (fun p e s m below meth c C0 hr hlk hlo hK hZ hW hS htb ls hl => ?_) (Nat.le_of_ble_eq_true rfl)
  have hx := C0.1
  have hb := C0.2.1
  have hl : lv_has ls 4 [(0, .ref (h.2.2 0 0)), (1, .int a1), (2, .int a2)] := hl
  unfold FX4_wind at hF
  refine lv_aload_n hx hb dX4_wind_0 rfl (lv_at hl 0 rfl) ?_
  refine lv_iload_n hx hb dX4_wind_1 rfl (lv_at hl 1 rfl) ?_
  obtain ⟨z1, hz1, hF⟩ := bnd hF
  refine inR (runV C0 hlo hK hZ hW hS (kX4_springAt l lo g h _ a1  _ _ hz1) wCO_X4_springAt wML_X4_51 wIM_X4_springAt wSE_X4_X4_springAt wIN_X4 hdX4_springAt ⟨Nat.le_of_ble_eq_true rfl, Nat.le_of_ble_eq_true rfl⟩ (recvK hK hW (al0 h 0 (by decide)) (ct0 0) rfl) rfl hl.1 rfl (Nat.le_of_ble_eq_true rfl) dX4_wind_2 ⟨Nat.le_of_ble_eq_true rfl, Nat.le_of_ble_eq_true rfl⟩) hS (fun H locs hW hS => ?_)
  refine nspl (fun nz1 => ?_) (fun iz1 nz1 => ?_)
  · rw [nz1, oc_n] at hF
    refine lv_astore_nN (lv' := [(3, .null), (0, .ref (h.2.2 0 0)), (1, .int a1), (2, .int a2)]) hx hb dX4_wind_5 rfl hl (by decide) rfl (fun ls hl => ?_)
    refine lv_aload_nN hx hb dX4_wind_6 rfl (lv_at hl 0 rfl) ?_
    refine lv_ifnonnullN hx hb dX4_wind_7 ?_
    cases hF
    exact thrS (k := 1) (text := "no such spring") C0 hnt hlk hK hZ hW hS hl.1 htb exs1 fit1 wCL_X4_55 wIN_java_lang_IndexOutOfBoundsException vxA1 vxB1 vxO1 (by decide) dX4_wind_10 dX4_wind_13 dX4_wind_14 dX4_wind_16 dX4_wind_19 (Nat.le_of_ble_eq_true rfl) (Nat.le_of_ble_eq_true rfl) (Nat.le_of_ble_eq_true rfl) (Nat.le_of_ble_eq_true rfl) rfl
  · rw [nz1, oc_s] at hF
    obtain ⟨hiz1, hF⟩ := grp hF
    refine lv_astore_n (lv' := [(3, .ref (h.2.2 5 iz1)), (0, .ref (h.2.2 0 0)), (1, .int a1), (2, .int a2)]) hx hb dX4_wind_5 rfl hl (by decide) rfl (fun ls hl => ?_)
    refine lv_aload_n hx hb dX4_wind_6 rfl (lv_at hl 0 rfl) ?_
    refine lv_ifnonnull (tgt := 20) hx hb dX4_wind_7 (by decide) ?_
    refine lv_iload_n hx hb dX4_wind_20 rfl (lv_at hl 3 rfl) ?_
    refine lv_iconst (v := 1) hx hb dX4_wind_21 (by decide) ?_
    refine lv_ldc hx hb C0.2.2.2.1 (C0.2.2.2.2 _ wconstant_X4_60) dX4_wind_22 ?_
    obtain ⟨z2, hz2, hF⟩ := bnd hF
    refine inI (runS C0 hlo hK hZ hW hS (kX4_isIn l lo g h _ a2 1 200000  _ _ hz2) wCO_X4_isIn wML_X4_28 wST_X4_isIn wIN_X4 hdsX4_isIn ⟨Nat.le_of_ble_eq_true rfl, Nat.le_of_ble_eq_true rfl⟩ rfl hl.1 rfl (Nat.le_of_ble_eq_true rfl) dX4_wind_24 ⟨Nat.le_of_ble_eq_true rfl, Nat.le_of_ble_eq_true rfl⟩) hS (fun H locs hW hS => ?_)
    refine lv_if_ne (tgt := 40) hx hb dX4_wind_27 (by decide) (fun c3 => ?_) (fun c3 => ?_)
    · rw [if_neg c3] at hF
      refine lv_aload_n hx hb dX4_wind_40 rfl (lv_at hl 0 rfl) ?_
      refine lv_aload_n hx hb dX4_wind_41 rfl (lv_at hl 0 rfl) ?_
      refine get5 C0 hK hW iz1 (al5 hiz1) 1 (by decide) wFL_X4_63 rfl rfl dX4_wind_42 ?_
      refine lv_iload_n hx hb dX4_wind_45 rfl (lv_at hl 3 rfl) ?_
      refine lv_iadd hx hb dX4_wind_46 ?_
      refine lv_ldc hx hb C0.2.2.2.1 (C0.2.2.2.2 _ wconstant_X4_60) dX4_wind_47 ?_
      refine r_min C0 hl.1 wML_X4_66 (Nat.le_of_ble_eq_true rfl) (Nat.le_of_ble_eq_true rfl) (Nat.le_of_ble_eq_true rfl) (Nat.le_of_ble_eq_true rfl) dX4_wind_49 ?_
      refine put5_1 C0 hK hW hS iz1 (al5 hiz1) wFL_X4_63 dX4_wind_52 (fun H locs hW hS => ?_)
      refine lv_aload_n hx hb dX4_wind_55 rfl (lv_at hl 0 rfl) ?_
      refine get5 C0 hK hW iz1 (al5 hiz1) 1 (by decide) wFL_X4_63 rfl rfl dX4_wind_56 ?_
      cases hF
      refine W.widen (k := 1) (n := 6) (Nat.le_of_ble_eq_true rfl) (Nat.le_of_ble_eq_true rfl) ?_
      exact vx_ret (retX C0 hr hlk rfl hW hS dX4_wind_59)
    · rw [if_pos c3] at hF
      cases hF
      exact thrS (k := 2) (text := "turns is not 1 to 200000") C0 hnt hlk hK hZ hW hS hl.1 htb exs2 fit2 wCL_X4_32 wIN_java_lang_IllegalArgumentException vxA2 vxB2 vxO2 (by decide) dX4_wind_30 dX4_wind_33 dX4_wind_34 dX4_wind_36 dX4_wind_39 (Nat.le_of_ble_eq_true rfl) (Nat.le_of_ble_eq_true rfl) (Nat.le_of_ble_eq_true rfl) (Nat.le_of_ble_eq_true rfl) rfl
theorem hdX4_brake : yX4_brake.cls = RX4 ∧ yX4_brake.cls ≠ "java/lang/invoke/MethodHandle" ∧ yX4_brake.cls ≠ "java/lang/invoke/VarHandle" ∧ (parseMethodDescriptor yX4_brake.desc).map (fun d => d.parameters.length) = some 2 := by decide +kernel
def FX4_brake (ns nb : Nat) (σ : Sg) (a1 : Int32) (a2 : Int32) : Option ((Nat ⊕ Int32) × Sg) :=
  (FX4_springAt ns nb σ a1).bind fun z1 => oc z1.1 (some (.inl 1, z1.2)) (fun iz1 => if iz1 < ns then (if (a2 = 0 ∨ a2 = 1) then (if ((z1.2.1 5 iz1 4) = 0 ∨ (z1.2.1 5 iz1 4) = 1) then (some (.inr (z1.2.1 5 iz1 4), (sI z1.2 5 iz1 4 a2))) else none) else none) else none)
set_option maxHeartbeats 4000000 in
set_option maxRecDepth 100000 in
theorem kX4_brake (l : Launch) (hnt : l.stackTraces = false) (lo : Nat) (g : Gx) (h : Sh) (σ : Sg) (a1 : Int32) (a2 : Int32)  (res : (Nat ⊕ Int32) × Sg) (hF : FX4_brake h.1 h.2.1 σ a1 a2 = some res) : MX l yX4_brake (ws_ yX4_brake cX4_brake 5 (some .boolean)) 6 130 1 6 lo g h [.ref (h.2.2 0 0), .int a1, .int a2] σ res := by
  refine ofX (own := RX4) (by decide +kernel) rfl (fun p e s m below meth c C0 hr hlk hlo hK hZ hW hS htb ls hl => ?_) (Nat.le_of_ble_eq_true rfl)
  have hx := C0.1
  have hb := C0.2.1
  have hl : lv_has ls 5 [(0, .ref (h.2.2 0 0)), (1, .int a1), (2, .int a2)] := hl
  unfold FX4_brake at hF
  refine lv_aload_n hx hb dX4_brake_0 rfl (lv_at hl 0 rfl) ?_
  refine lv_iload_n hx hb dX4_brake_1 rfl (lv_at hl 1 rfl) ?_
  obtain ⟨z1, hz1, hF⟩ := bnd hF
  refine inR (runV C0 hlo hK hZ hW hS (kX4_springAt l lo g h _ a1  _ _ hz1) wCO_X4_springAt wML_X4_51 wIM_X4_springAt wSE_X4_X4_springAt wIN_X4 hdX4_springAt ⟨Nat.le_of_ble_eq_true rfl, Nat.le_of_ble_eq_true rfl⟩ (recvK hK hW (al0 h 0 (by decide)) (ct0 0) rfl) rfl hl.1 rfl (Nat.le_of_ble_eq_true rfl) dX4_brake_2 ⟨Nat.le_of_ble_eq_true rfl, Nat.le_of_ble_eq_true rfl⟩) hS (fun H locs hW hS => ?_)
  refine nspl (fun nz1 => ?_) (fun iz1 nz1 => ?_)
  · rw [nz1, oc_n] at hF
    refine lv_astore_nN (lv' := [(3, .null), (0, .ref (h.2.2 0 0)), (1, .int a1), (2, .int a2)]) hx hb dX4_brake_5 rfl hl (by decide) rfl (fun ls hl => ?_)
    refine lv_aload_nN hx hb dX4_brake_6 rfl (lv_at hl 0 rfl) ?_
    refine lv_ifnonnullN hx hb dX4_brake_7 ?_
    cases hF
    exact thrS (k := 1) (text := "no such spring") C0 hnt hlk hK hZ hW hS hl.1 htb exs1 fit1 wCL_X4_55 wIN_java_lang_IndexOutOfBoundsException vxA1 vxB1 vxO1 (by decide) dX4_brake_10 dX4_brake_13 dX4_brake_14 dX4_brake_16 dX4_brake_19 (Nat.le_of_ble_eq_true rfl) (Nat.le_of_ble_eq_true rfl) (Nat.le_of_ble_eq_true rfl) (Nat.le_of_ble_eq_true rfl) rfl
  · rw [nz1, oc_s] at hF
    obtain ⟨hiz1, hF⟩ := grp hF
    refine lv_astore_n (lv' := [(3, .ref (h.2.2 5 iz1)), (0, .ref (h.2.2 0 0)), (1, .int a1), (2, .int a2)]) hx hb dX4_brake_5 rfl hl (by decide) rfl (fun ls hl => ?_)
    refine lv_aload_n hx hb dX4_brake_6 rfl (lv_at hl 0 rfl) ?_
    refine lv_ifnonnull (tgt := 20) hx hb dX4_brake_7 (by decide) ?_
    refine lv_aload_n hx hb dX4_brake_20 rfl (lv_at hl 0 rfl) ?_
    refine get5 C0 hK hW iz1 (al5 hiz1) 4 (by decide) wFL_X4_72 rfl rfl dX4_brake_21 ?_
    refine lv_istore (lv' := [(4, .int (z1.2.1 5 iz1 4)), (3, .ref (h.2.2 5 iz1)), (0, .ref (h.2.2 0 0)), (1, .int a1), (2, .int a2)]) hx hb dX4_brake_24 hl (by decide) rfl (fun ls hl => ?_)
    refine lv_aload_n hx hb dX4_brake_26 rfl (lv_at hl 1 rfl) ?_
    refine lv_iload_n hx hb dX4_brake_27 rfl (lv_at hl 4 rfl) ?_
    obtain ⟨hz, hF⟩ := grp hF
    refine put5_4 C0 hK hW hS iz1 (al5 hiz1) hz wFL_X4_72 dX4_brake_28 (fun H locs hW hS => ?_)
    refine lv_iload hx hb dX4_brake_31 (lv_at hl 0 rfl) ?_
    obtain ⟨hz, hF⟩ := grp hF
    cases hF
    refine W.widen (k := 1) (n := 6) (Nat.le_of_ble_eq_true rfl) (Nat.le_of_ble_eq_true rfl) ?_
    exact vx_ret (retXZ C0 hr hlk hz rfl hW hS dX4_brake_33)
theorem hdX4_couple : yX4_couple.cls = RX4 ∧ yX4_couple.cls ≠ "java/lang/invoke/MethodHandle" ∧ yX4_couple.cls ≠ "java/lang/invoke/VarHandle" ∧ (parseMethodDescriptor yX4_couple.desc).map (fun d => d.parameters.length) = some 3 := by decide +kernel
def FX4_couple (ns nb : Nat) (σ : Sg) (a1 : Int32) (a2 : Int32) (a3 : Int32) : Option ((Nat ⊕ Int32) × Sg) :=
  (FX4_springAt ns nb σ a1).bind fun z1 => oc z1.1 (some (.inl 1, z1.2)) (fun iz1 => if iz1 < ns then ((FX4_springAt ns nb z1.2 a2).bind fun z2 => oc z2.1 (some (.inl 1, z2.2)) (fun iz2 => if iz2 < ns then (if a1 = a2 then (some (.inl 2, z2.2)) else ((FX4_pairBit ns nb z2.2 a1 a2).bind fun z4 => if a3 = 0 then ((FJ6_bitCount_0f7a4 ns nb (sI z4.2 0 0 5 ((z4.2.1 0 0 5) &&& (z4.1 ^^^ (-1)))) ((sI z4.2 0 0 5 ((z4.2.1 0 0 5) &&& (z4.1 ^^^ (-1)))).1 0 0 5)).bind fun z6 => some (.inr z6.1, z6.2)) else ((FJ6_bitCount_0f7a4 ns nb (sI z4.2 0 0 5 ((z4.2.1 0 0 5) ||| z4.1)) ((sI z4.2 0 0 5 ((z4.2.1 0 0 5) ||| z4.1)).1 0 0 5)).bind fun z7 => some (.inr z7.1, z7.2)))) else none)) else none)
set_option maxHeartbeats 4000000 in
set_option maxRecDepth 100000 in
theorem kX4_couple (l : Launch) (hnt : l.stackTraces = false) (lo : Nat) (g : Gx) (h : Sh) (σ : Sg) (a1 : Int32) (a2 : Int32) (a3 : Int32)  (res : (Nat ⊕ Int32) × Sg) (hF : FX4_couple h.1 h.2.1 σ a1 a2 a3 = some res) : MX l yX4_couple (ws_ yX4_couple cX4_couple 5 (some .int)) 6 130 1 6 lo g h [.ref (h.2.2 0 0), .int a1, .int a2, .int a3] σ res := by
  refine ofX (own := RX4) (by decide +kernel) rfl (fun p e s m below meth c C0 hr hlk hlo hK hZ hW hS htb ls hl => ?_) (Nat.le_of_ble_eq_true rfl)
  have hx := C0.1
  have hb := C0.2.1
  have hl : lv_has ls 5 [(0, .ref (h.2.2 0 0)), (1, .int a1), (2, .int a2), (3, .int a3)] := hl
  unfold FX4_couple at hF
  refine lv_aload_n hx hb dX4_couple_0 rfl (lv_at hl 0 rfl) ?_
  refine lv_iload_n hx hb dX4_couple_1 rfl (lv_at hl 1 rfl) ?_
  obtain ⟨z1, hz1, hF⟩ := bnd hF
  refine inR (runV C0 hlo hK hZ hW hS (kX4_springAt l lo g h _ a1  _ _ hz1) wCO_X4_springAt wML_X4_51 wIM_X4_springAt wSE_X4_X4_springAt wIN_X4 hdX4_springAt ⟨Nat.le_of_ble_eq_true rfl, Nat.le_of_ble_eq_true rfl⟩ (recvK hK hW (al0 h 0 (by decide)) (ct0 0) rfl) rfl hl.1 rfl (Nat.le_of_ble_eq_true rfl) dX4_couple_2 ⟨Nat.le_of_ble_eq_true rfl, Nat.le_of_ble_eq_true rfl⟩) hS (fun H locs hW hS => ?_)
  refine nspl (fun nz1 => ?_) (fun iz1 nz1 => ?_)
  · rw [nz1, oc_n] at hF
    refine lv_ifnullN (tgt := 16) hx hb dX4_couple_5 (by decide) ?_
    cases hF
    exact thrS (k := 1) (text := "no such spring") C0 hnt hlk hK hZ hW hS hl.1 htb exs1 fit1 wCL_X4_55 wIN_java_lang_IndexOutOfBoundsException vxA1 vxB1 vxO1 (by decide) dX4_couple_16 dX4_couple_19 dX4_couple_20 dX4_couple_22 dX4_couple_25 (Nat.le_of_ble_eq_true rfl) (Nat.le_of_ble_eq_true rfl) (Nat.le_of_ble_eq_true rfl) (Nat.le_of_ble_eq_true rfl) rfl
  · rw [nz1, oc_s] at hF
    obtain ⟨hiz1, hF⟩ := grp hF
    refine lv_ifnull hx hb dX4_couple_5 ?_
    refine lv_aload_n hx hb dX4_couple_8 rfl (lv_at hl 0 rfl) ?_
    refine lv_iload_n hx hb dX4_couple_9 rfl (lv_at hl 2 rfl) ?_
    obtain ⟨z2, hz2, hF⟩ := bnd hF
    refine inR (runV C0 hlo hK hZ hW hS (kX4_springAt l lo g h _ a2  _ _ hz2) wCO_X4_springAt wML_X4_51 wIM_X4_springAt wSE_X4_X4_springAt wIN_X4 hdX4_springAt ⟨Nat.le_of_ble_eq_true rfl, Nat.le_of_ble_eq_true rfl⟩ (recvK hK hW (al0 h 0 (by decide)) (ct0 0) rfl) rfl hl.1 rfl (Nat.le_of_ble_eq_true rfl) dX4_couple_10 ⟨Nat.le_of_ble_eq_true rfl, Nat.le_of_ble_eq_true rfl⟩) hS (fun H locs hW hS => ?_)
    refine nspl (fun nz2 => ?_) (fun iz2 nz2 => ?_)
    · rw [nz2, oc_n] at hF
      refine lv_ifnonnullN hx hb dX4_couple_13 ?_
      cases hF
      exact thrS (k := 1) (text := "no such spring") C0 hnt hlk hK hZ hW hS hl.1 htb exs1 fit1 wCL_X4_55 wIN_java_lang_IndexOutOfBoundsException vxA1 vxB1 vxO1 (by decide) dX4_couple_16 dX4_couple_19 dX4_couple_20 dX4_couple_22 dX4_couple_25 (Nat.le_of_ble_eq_true rfl) (Nat.le_of_ble_eq_true rfl) (Nat.le_of_ble_eq_true rfl) (Nat.le_of_ble_eq_true rfl) rfl
    · rw [nz2, oc_s] at hF
      obtain ⟨hiz2, hF⟩ := grp hF
      refine lv_ifnonnull (tgt := 26) hx hb dX4_couple_13 (by decide) ?_
      refine lv_iload_n hx hb dX4_couple_26 rfl (lv_at hl 1 rfl) ?_
      refine lv_iload_n hx hb dX4_couple_27 rfl (lv_at hl 2 rfl) ?_
      refine lv_icmp_ne (tgt := 41) hx hb dX4_couple_28 (by decide) (fun c3 => ?_) (fun c3 => ?_)
      · rw [if_neg c3] at hF
        refine lv_iload_n hx hb dX4_couple_41 rfl (lv_at hl 1 rfl) ?_
        refine lv_iload_n hx hb dX4_couple_42 rfl (lv_at hl 2 rfl) ?_
        obtain ⟨z4, hz4, hF⟩ := bnd hF
        refine inI (runS C0 hlo hK hZ hW hS (kX4_pairBit l lo g h _ a1 a2  _ _ hz4) wCO_X4_pairBit wML_X4_78 wST_X4_pairBit wIN_X4 hdsX4_pairBit ⟨Nat.le_of_ble_eq_true rfl, Nat.le_of_ble_eq_true rfl⟩ rfl hl.1 rfl (Nat.le_of_ble_eq_true rfl) dX4_couple_43 ⟨Nat.le_of_ble_eq_true rfl, Nat.le_of_ble_eq_true rfl⟩) hS (fun H locs hW hS => ?_)
        refine lv_istore (lv' := [(4, .int z4.1), (0, .ref (h.2.2 0 0)), (1, .int a1), (2, .int a2), (3, .int a3)]) hx hb dX4_couple_46 hl (by decide) rfl (fun ls hl => ?_)
        refine lv_aload_n hx hb dX4_couple_48 rfl (lv_at hl 1 rfl) ?_
        refine lv_iload_n hx hb dX4_couple_49 rfl (lv_at hl 4 rfl) ?_
        refine lv_if_eq (tgt := 63) hx hb dX4_couple_50 (by decide) (fun c5 => ?_) (fun c5 => ?_)
        · rw [if_pos c5] at hF
          refine lv_aload_n hx hb dX4_couple_63 rfl (lv_at hl 1 rfl) ?_
          refine get0 C0 hK hW 0 (al0 h 0 (by decide)) 5 (by decide) wFL_X4_81 rfl rfl dX4_couple_64 ?_
          refine lv_iload hx hb dX4_couple_67 (lv_at hl 0 rfl) ?_
          refine lv_iconst (v := (-1)) hx hb dX4_couple_69 (by decide) ?_
          refine lv_ixor hx hb dX4_couple_70 ?_
          refine lv_iand hx hb dX4_couple_71 ?_
          refine put0_5 C0 hK hW hS 0 (al0 h 0 (by decide)) wFL_X4_81 dX4_couple_72 (fun H locs hW hS => ?_)
          refine lv_aload_n hx hb dX4_couple_75 rfl (lv_at hl 1 rfl) ?_
          refine get0 C0 hK hW 0 (al0 h 0 (by decide)) 5 (by decide) wFL_X4_81 rfl rfl dX4_couple_76 ?_
          obtain ⟨z6, hz6, hF⟩ := bnd hF
          refine inI (runS C0 hlo hK hZ hW hS (kJ6_bitCount_0f7a4 l lo g h _ ((sI z4.2 0 0 5 ((z4.2.1 0 0 5) &&& (z4.1 ^^^ (-1)))).1 0 0 5)  _ _ hz6) wCO_J6_bitCount_0f7a4 wML_X4_84 wST_J6_bitCount_0f7a4 wIN_J6 hdsJ6_bitCount_0f7a4 ⟨Nat.le_of_ble_eq_true rfl, Nat.le_of_ble_eq_true rfl⟩ rfl hl.1 rfl (Nat.le_of_ble_eq_true rfl) dX4_couple_79 ⟨Nat.le_of_ble_eq_true rfl, Nat.le_of_ble_eq_true rfl⟩) hS (fun H locs hW hS => ?_)
          cases hF
          refine W.widen (k := 1) (n := 6) (Nat.le_of_ble_eq_true rfl) (Nat.le_of_ble_eq_true rfl) ?_
          exact vx_ret (retX C0 hr hlk rfl hW hS dX4_couple_82)
        · rw [if_neg c5] at hF
          refine lv_aload_n hx hb dX4_couple_53 rfl (lv_at hl 1 rfl) ?_
          refine get0 C0 hK hW 0 (al0 h 0 (by decide)) 5 (by decide) wFL_X4_81 rfl rfl dX4_couple_54 ?_
          refine lv_iload hx hb dX4_couple_57 (lv_at hl 0 rfl) ?_
          refine lv_ior hx hb dX4_couple_59 ?_
          refine lv_goto (tgt := 72) hx hb dX4_couple_60 (by decide) ?_
          refine put0_5 C0 hK hW hS 0 (al0 h 0 (by decide)) wFL_X4_81 dX4_couple_72 (fun H locs hW hS => ?_)
          refine lv_aload_n hx hb dX4_couple_75 rfl (lv_at hl 1 rfl) ?_
          refine get0 C0 hK hW 0 (al0 h 0 (by decide)) 5 (by decide) wFL_X4_81 rfl rfl dX4_couple_76 ?_
          obtain ⟨z7, hz7, hF⟩ := bnd hF
          refine inI (runS C0 hlo hK hZ hW hS (kJ6_bitCount_0f7a4 l lo g h _ ((sI z4.2 0 0 5 ((z4.2.1 0 0 5) ||| z4.1)).1 0 0 5)  _ _ hz7) wCO_J6_bitCount_0f7a4 wML_X4_84 wST_J6_bitCount_0f7a4 wIN_J6 hdsJ6_bitCount_0f7a4 ⟨Nat.le_of_ble_eq_true rfl, Nat.le_of_ble_eq_true rfl⟩ rfl hl.1 rfl (Nat.le_of_ble_eq_true rfl) dX4_couple_79 ⟨Nat.le_of_ble_eq_true rfl, Nat.le_of_ble_eq_true rfl⟩) hS (fun H locs hW hS => ?_)
          cases hF
          refine W.widen (k := 1) (n := 6) (Nat.le_of_ble_eq_true rfl) (Nat.le_of_ble_eq_true rfl) ?_
          exact vx_ret (retX C0 hr hlk rfl hW hS dX4_couple_82)
      · rw [if_pos c3] at hF
        cases hF
        exact thrS (k := 2) (text := "both are the same spring") C0 hnt hlk hK hZ hW hS hl.1 htb exs2 fit2 wCL_X4_32 wIN_java_lang_IllegalArgumentException vxA2 vxB2 vxO2 (by decide) dX4_couple_31 dX4_couple_34 dX4_couple_35 dX4_couple_37 dX4_couple_40 (Nat.le_of_ble_eq_true rfl) (Nat.le_of_ble_eq_true rfl) (Nat.le_of_ble_eq_true rfl) (Nat.le_of_ble_eq_true rfl) rfl
theorem hdX4_spring : yX4_spring.cls = RX4 ∧ yX4_spring.cls ≠ "java/lang/invoke/MethodHandle" ∧ yX4_spring.cls ≠ "java/lang/invoke/VarHandle" ∧ (parseMethodDescriptor yX4_spring.desc).map (fun d => d.parameters.length) = some 2 := by decide +kernel
def FX4_spring (ns nb : Nat) (σ : Sg) (a1 : Int32) (a2 : Int32) : Option ((Nat ⊕ Int32) × Sg) :=
  (FX4_springAt ns nb σ a1).bind fun z1 => oc z1.1 (some (.inl 1, z1.2)) (fun iz1 => if iz1 < ns then (if a2 = 0 then (some (.inr (z1.2.1 5 iz1 0), z1.2)) else (if a2 = 1 then (some (.inr (z1.2.1 5 iz1 1), z1.2)) else (if a2 = 2 then (some (.inr ((z1.2.2 5 iz1 2).toInt32), z1.2)) else (if a2 = 3 then (some (.inr (z1.2.1 5 iz1 3), z1.2)) else (if a2 = 4 then (if (z1.2.1 5 iz1 4) = 0 then (some (.inr 0, z1.2)) else (some (.inr 1, z1.2))) else (if a2 = 5 then ((FX4_birdsDrivenBy ns nb z1.2 a1).bind fun z8 => some (.inr z8.1, z8.2)) else (if a2 = 6 then ((FX4_loadOn ns nb z1.2 a1).bind fun z10 => some (.inr z10.1, z10.2)) else (some (.inl 1, z1.2))))))))) else none)
set_option maxHeartbeats 4000000 in
set_option maxRecDepth 100000 in
theorem kX4_spring (l : Launch) (hnt : l.stackTraces = false) (lo : Nat) (g : Gx) (h : Sh) (σ : Sg) (a1 : Int32) (a2 : Int32)  (res : (Nat ⊕ Int32) × Sg) (hF : FX4_spring h.1 h.2.1 σ a1 a2 = some res) : MX l yX4_spring (ws_ yX4_spring cX4_spring 4 (some .int)) 6 130 1 6 lo g h [.ref (h.2.2 0 0), .int a1, .int a2] σ res := by
  refine ofX (own := RX4) (by decide +kernel) rfl (fun p e s m below meth c C0 hr hlk hlo hK hZ hW hS htb ls hl => ?_) (Nat.le_of_ble_eq_true rfl)
  have hx := C0.1
  have hb := C0.2.1
  have hl : lv_has ls 4 [(0, .ref (h.2.2 0 0)), (1, .int a1), (2, .int a2)] := hl
  unfold FX4_spring at hF
  refine lv_aload_n hx hb dX4_spring_0 rfl (lv_at hl 0 rfl) ?_
  refine lv_iload_n hx hb dX4_spring_1 rfl (lv_at hl 1 rfl) ?_
  obtain ⟨z1, hz1, hF⟩ := bnd hF
  refine inR (runV C0 hlo hK hZ hW hS (kX4_springAt l lo g h _ a1  _ _ hz1) wCO_X4_springAt wML_X4_51 wIM_X4_springAt wSE_X4_X4_springAt wIN_X4 hdX4_springAt ⟨Nat.le_of_ble_eq_true rfl, Nat.le_of_ble_eq_true rfl⟩ (recvK hK hW (al0 h 0 (by decide)) (ct0 0) rfl) rfl hl.1 rfl (Nat.le_of_ble_eq_true rfl) dX4_spring_2 ⟨Nat.le_of_ble_eq_true rfl, Nat.le_of_ble_eq_true rfl⟩) hS (fun H locs hW hS => ?_)
  refine nspl (fun nz1 => ?_) (fun iz1 nz1 => ?_)
  · rw [nz1, oc_n] at hF
    refine lv_astore_nN (lv' := [(3, .null), (0, .ref (h.2.2 0 0)), (1, .int a1), (2, .int a2)]) hx hb dX4_spring_5 rfl hl (by decide) rfl (fun ls hl => ?_)
    refine lv_aload_nN hx hb dX4_spring_6 rfl (lv_at hl 0 rfl) ?_
    refine lv_ifnonnullN hx hb dX4_spring_7 ?_
    cases hF
    exact thrS (k := 1) (text := "no such spring") C0 hnt hlk hK hZ hW hS hl.1 htb exs1 fit1 wCL_X4_55 wIN_java_lang_IndexOutOfBoundsException vxA1 vxB1 vxO1 (by decide) dX4_spring_10 dX4_spring_13 dX4_spring_14 dX4_spring_16 dX4_spring_19 (Nat.le_of_ble_eq_true rfl) (Nat.le_of_ble_eq_true rfl) (Nat.le_of_ble_eq_true rfl) (Nat.le_of_ble_eq_true rfl) rfl
  · rw [nz1, oc_s] at hF
    obtain ⟨hiz1, hF⟩ := grp hF
    refine lv_astore_n (lv' := [(3, .ref (h.2.2 5 iz1)), (0, .ref (h.2.2 0 0)), (1, .int a1), (2, .int a2)]) hx hb dX4_spring_5 rfl hl (by decide) rfl (fun ls hl => ?_)
    refine lv_aload_n hx hb dX4_spring_6 rfl (lv_at hl 0 rfl) ?_
    refine lv_ifnonnull (tgt := 20) hx hb dX4_spring_7 (by decide) ?_
    refine lv_iload_n hx hb dX4_spring_20 rfl (lv_at hl 3 rfl) ?_
    by_cases c2 : a2 = 0
    · rw [if_pos c2] at hF
      refine lv_tableIn (tgt := 64) (off := 43) hx hb dX4_spring_21 (by rw [c2]; decide) (by rw [c2]; decide) (by rw [c2]; decide) (by decide) ?_
      refine lv_aload_n hx hb dX4_spring_64 rfl (lv_at hl 0 rfl) ?_
      refine get5 C0 hK hW iz1 (al5 hiz1) 0 (by decide) wFL_X4_90 rfl rfl dX4_spring_65 ?_
      cases hF
      refine W.widen (k := 1) (n := 6) (Nat.le_of_ble_eq_true rfl) (Nat.le_of_ble_eq_true rfl) ?_
      exact vx_ret (retX C0 hr hlk rfl hW hS dX4_spring_68)
    · rw [if_neg c2] at hF
      by_cases c3 : a2 = 1
      · rw [if_pos c3] at hF
        refine lv_tableIn (tgt := 69) (off := 48) hx hb dX4_spring_21 (by rw [c3]; decide) (by rw [c3]; decide) (by rw [c3]; decide) (by decide) ?_
        refine lv_aload_n hx hb dX4_spring_69 rfl (lv_at hl 0 rfl) ?_
        refine get5 C0 hK hW iz1 (al5 hiz1) 1 (by decide) wFL_X4_63 rfl rfl dX4_spring_70 ?_
        cases hF
        refine W.widen (k := 1) (n := 6) (Nat.le_of_ble_eq_true rfl) (Nat.le_of_ble_eq_true rfl) ?_
        exact vx_ret (retX C0 hr hlk rfl hW hS dX4_spring_73)
      · rw [if_neg c3] at hF
        by_cases c4 : a2 = 2
        · rw [if_pos c4] at hF
          refine lv_tableIn (tgt := 74) (off := 53) hx hb dX4_spring_21 (by rw [c4]; decide) (by rw [c4]; decide) (by rw [c4]; decide) (by decide) ?_
          refine lv_aload_n hx hb dX4_spring_74 rfl (lv_at hl 0 rfl) ?_
          refine get5 C0 hK hW iz1 (al5 hiz1) 2 (by decide) wFL_X4_93 rfl rfl dX4_spring_75 ?_
          refine lv_l2i hx hb dX4_spring_78 rfl ?_
          cases hF
          refine W.widen (k := 1) (n := 6) (Nat.le_of_ble_eq_true rfl) (Nat.le_of_ble_eq_true rfl) ?_
          exact vx_ret (retX C0 hr hlk rfl hW hS dX4_spring_79)
        · rw [if_neg c4] at hF
          by_cases c5 : a2 = 3
          · rw [if_pos c5] at hF
            refine lv_tableIn (tgt := 80) (off := 59) hx hb dX4_spring_21 (by rw [c5]; decide) (by rw [c5]; decide) (by rw [c5]; decide) (by decide) ?_
            refine lv_aload_n hx hb dX4_spring_80 rfl (lv_at hl 0 rfl) ?_
            refine get5 C0 hK hW iz1 (al5 hiz1) 3 (by decide) wFL_X4_97 rfl rfl dX4_spring_81 ?_
            cases hF
            refine W.widen (k := 1) (n := 6) (Nat.le_of_ble_eq_true rfl) (Nat.le_of_ble_eq_true rfl) ?_
            exact vx_ret (retX C0 hr hlk rfl hW hS dX4_spring_84)
          · rw [if_neg c5] at hF
            by_cases c7 : a2 = 4
            · rw [if_pos c7] at hF
              refine lv_tableIn (tgt := 85) (off := 64) hx hb dX4_spring_21 (by rw [c7]; decide) (by rw [c7]; decide) (by rw [c7]; decide) (by decide) ?_
              refine lv_aload_n hx hb dX4_spring_85 rfl (lv_at hl 0 rfl) ?_
              refine get5 C0 hK hW iz1 (al5 hiz1) 4 (by decide) wFL_X4_72 rfl rfl dX4_spring_86 ?_
              refine lv_if_eq (tgt := 96) hx hb dX4_spring_89 (by decide) (fun c6 => ?_) (fun c6 => ?_)
              · rw [if_pos c6] at hF
                refine lv_iconst (v := 0) hx hb dX4_spring_96 (by decide) ?_
                cases hF
                refine W.widen (k := 1) (n := 6) (Nat.le_of_ble_eq_true rfl) (Nat.le_of_ble_eq_true rfl) ?_
                exact vx_ret (retX C0 hr hlk rfl hW hS dX4_spring_97)
              · rw [if_neg c6] at hF
                refine lv_iconst (v := 1) hx hb dX4_spring_92 (by decide) ?_
                refine lv_goto (tgt := 97) hx hb dX4_spring_93 (by decide) ?_
                cases hF
                refine W.widen (k := 1) (n := 6) (Nat.le_of_ble_eq_true rfl) (Nat.le_of_ble_eq_true rfl) ?_
                exact vx_ret (retX C0 hr hlk rfl hW hS dX4_spring_97)
            · rw [if_neg c7] at hF
              by_cases c9 : a2 = 5
              · rw [if_pos c9] at hF
                refine lv_tableIn (tgt := 98) (off := 77) hx hb dX4_spring_21 (by rw [c9]; decide) (by rw [c9]; decide) (by rw [c9]; decide) (by decide) ?_
                refine lv_aload_n hx hb dX4_spring_98 rfl (lv_at hl 1 rfl) ?_
                refine lv_iload_n hx hb dX4_spring_99 rfl (lv_at hl 2 rfl) ?_
                obtain ⟨z8, hz8, hF⟩ := bnd hF
                refine inI (runV C0 hlo hK hZ hW hS (kX4_birdsDrivenBy l lo g h _ a1  _ _ hz8) wCO_X4_birdsDrivenBy wML_X4_100 wIM_X4_birdsDrivenBy wSE_X4_X4_birdsDrivenBy wIN_X4 hdX4_birdsDrivenBy ⟨Nat.le_of_ble_eq_true rfl, Nat.le_of_ble_eq_true rfl⟩ (recvK hK hW (al0 h 0 (by decide)) (ct0 0) rfl) rfl hl.1 rfl (Nat.le_of_ble_eq_true rfl) dX4_spring_100 ⟨Nat.le_of_ble_eq_true rfl, Nat.le_of_ble_eq_true rfl⟩) hS (fun H locs hW hS => ?_)
                cases hF
                refine W.widen (k := 1) (n := 6) (Nat.le_of_ble_eq_true rfl) (Nat.le_of_ble_eq_true rfl) ?_
                exact vx_ret (retX C0 hr hlk rfl hW hS dX4_spring_103)
              · rw [if_neg c9] at hF
                by_cases c11 : a2 = 6
                · rw [if_pos c11] at hF
                  refine lv_tableIn (tgt := 104) (off := 83) hx hb dX4_spring_21 (by rw [c11]; decide) (by rw [c11]; decide) (by rw [c11]; decide) (by decide) ?_
                  refine lv_aload_n hx hb dX4_spring_104 rfl (lv_at hl 1 rfl) ?_
                  refine lv_iload_n hx hb dX4_spring_105 rfl (lv_at hl 2 rfl) ?_
                  obtain ⟨z10, hz10, hF⟩ := bnd hF
                  refine inI (runV C0 hlo hK hZ hW hS (kX4_loadOn l lo g h _ a1  _ _ hz10) wCO_X4_loadOn wML_X4_103 wIM_X4_loadOn wSE_X4_X4_loadOn wIN_X4 hdX4_loadOn ⟨Nat.le_of_ble_eq_true rfl, Nat.le_of_ble_eq_true rfl⟩ (recvK hK hW (al0 h 0 (by decide)) (ct0 0) rfl) rfl hl.1 rfl (Nat.le_of_ble_eq_true rfl) dX4_spring_106 ⟨Nat.le_of_ble_eq_true rfl, Nat.le_of_ble_eq_true rfl⟩) hS (fun H locs hW hS => ?_)
                  cases hF
                  refine W.widen (k := 1) (n := 6) (Nat.le_of_ble_eq_true rfl) (Nat.le_of_ble_eq_true rfl) ?_
                  exact vx_ret (retX C0 hr hlk rfl hW hS dX4_spring_109)
                · rw [if_neg c11] at hF
                  have t0 := lv_neT c2 (a := 0) (by decide)
                  have t1 := lv_neT c3 (a := 1) (by decide)
                  have t2 := lv_neT c4 (a := 2) (by decide)
                  have t3 := lv_neT c5 (a := 3) (by decide)
                  have t4 := lv_neT c7 (a := 4) (by decide)
                  have t5 := lv_neT c9 (a := 5) (by decide)
                  have t6 := lv_neT c11 (a := 6) (by decide)
                  refine lv_tableOut (tgt := 110) hx hb dX4_spring_21 (by omega) (by decide) ?_
                  cases hF
                  exact thrS (k := 1) (text := "what is not 0 to 6") C0 hnt hlk hK hZ hW hS hl.1 htb exs1 fit1 wCL_X4_55 wIN_java_lang_IndexOutOfBoundsException vxA1 vxB1 vxO1 (by decide) dX4_spring_110 dX4_spring_113 dX4_spring_114 dX4_spring_116 dX4_spring_119 (Nat.le_of_ble_eq_true rfl) (Nat.le_of_ble_eq_true rfl) (Nat.le_of_ble_eq_true rfl) (Nat.le_of_ble_eq_true rfl) rfl
set_option maxHeartbeats 4000000 in
set_option maxRecDepth 100000 in
theorem nX4_spring (l : Launch) (lo : Nat) (g : Gx) (h : Sh) (σ : Sg) (a1 : Int32) (a2 : Int32)  (r : Int32) (σ1 : Sg) (hF : FX4_spring h.1 h.2.1 σ a1 a2 = some (.inr r, σ1)) : MI l yX4_spring (ws_ yX4_spring cX4_spring 4 (some .int)) 4 94 0 0 lo g h [.ref (h.2.2 0 0), .int a1, .int a2] σ r σ1 := by
  refine ofB (own := RX4) (by decide +kernel) rfl (fun p e s m below meth c C0 hr hlk hlo hK hZ hW hS ls hl => ?_) (Nat.le_of_ble_eq_true rfl)
  have hx := C0.1
  have hb := C0.2.1
  have hl : lv_has ls 4 [(0, .ref (h.2.2 0 0)), (1, .int a1), (2, .int a2)] := hl
  unfold FX4_spring at hF
  refine lv_aload_n hx hb dX4_spring_0 rfl (lv_at hl 0 rfl) ?_
  refine lv_iload_n hx hb dX4_spring_1 rfl (lv_at hl 1 rfl) ?_
  obtain ⟨z1, hz1, hF⟩ := bnd hF
  refine inR (runV C0 hlo hK hZ hW hS (kX4_springAt l lo g h _ a1  _ _ hz1) wCO_X4_springAt wML_X4_51 wIM_X4_springAt wSE_X4_X4_springAt wIN_X4 hdX4_springAt ⟨Nat.le_of_ble_eq_true rfl, Nat.le_of_ble_eq_true rfl⟩ (recvK hK hW (al0 h 0 (by decide)) (ct0 0) rfl) rfl hl.1 rfl (Nat.le_of_ble_eq_true rfl) dX4_spring_2 ⟨Nat.le_of_ble_eq_true rfl, Nat.le_of_ble_eq_true rfl⟩) hS (fun H locs hW hS => ?_)
  refine nspl (fun nz1 => ?_) (fun iz1 nz1 => ?_)
  · rw [nz1, oc_n] at hF
    refine lv_astore_nN (lv' := [(3, .null), (0, .ref (h.2.2 0 0)), (1, .int a1), (2, .int a2)]) hx hb dX4_spring_5 rfl hl (by decide) rfl (fun ls hl => ?_)
    refine lv_aload_nN hx hb dX4_spring_6 rfl (lv_at hl 0 rfl) ?_
    refine lv_ifnonnullN hx hb dX4_spring_7 ?_
    cases hF
  · rw [nz1, oc_s] at hF
    obtain ⟨hiz1, hF⟩ := grp hF
    refine lv_astore_n (lv' := [(3, .ref (h.2.2 5 iz1)), (0, .ref (h.2.2 0 0)), (1, .int a1), (2, .int a2)]) hx hb dX4_spring_5 rfl hl (by decide) rfl (fun ls hl => ?_)
    refine lv_aload_n hx hb dX4_spring_6 rfl (lv_at hl 0 rfl) ?_
    refine lv_ifnonnull (tgt := 20) hx hb dX4_spring_7 (by decide) ?_
    refine lv_iload_n hx hb dX4_spring_20 rfl (lv_at hl 3 rfl) ?_
    by_cases c2 : a2 = 0
    · rw [if_pos c2] at hF
      refine lv_tableIn (tgt := 64) (off := 43) hx hb dX4_spring_21 (by rw [c2]; decide) (by rw [c2]; decide) (by rw [c2]; decide) (by decide) ?_
      refine lv_aload_n hx hb dX4_spring_64 rfl (lv_at hl 0 rfl) ?_
      refine get5 C0 hK hW iz1 (al5 hiz1) 0 (by decide) wFL_X4_90 rfl rfl dX4_spring_65 ?_
      cases hF
      exact retI C0 hr hlk hW hS dX4_spring_68
    · rw [if_neg c2] at hF
      by_cases c3 : a2 = 1
      · rw [if_pos c3] at hF
        refine lv_tableIn (tgt := 69) (off := 48) hx hb dX4_spring_21 (by rw [c3]; decide) (by rw [c3]; decide) (by rw [c3]; decide) (by decide) ?_
        refine lv_aload_n hx hb dX4_spring_69 rfl (lv_at hl 0 rfl) ?_
        refine get5 C0 hK hW iz1 (al5 hiz1) 1 (by decide) wFL_X4_63 rfl rfl dX4_spring_70 ?_
        cases hF
        exact retI C0 hr hlk hW hS dX4_spring_73
      · rw [if_neg c3] at hF
        by_cases c4 : a2 = 2
        · rw [if_pos c4] at hF
          refine lv_tableIn (tgt := 74) (off := 53) hx hb dX4_spring_21 (by rw [c4]; decide) (by rw [c4]; decide) (by rw [c4]; decide) (by decide) ?_
          refine lv_aload_n hx hb dX4_spring_74 rfl (lv_at hl 0 rfl) ?_
          refine get5 C0 hK hW iz1 (al5 hiz1) 2 (by decide) wFL_X4_93 rfl rfl dX4_spring_75 ?_
          refine lv_l2i hx hb dX4_spring_78 rfl ?_
          cases hF
          exact retI C0 hr hlk hW hS dX4_spring_79
        · rw [if_neg c4] at hF
          by_cases c5 : a2 = 3
          · rw [if_pos c5] at hF
            refine lv_tableIn (tgt := 80) (off := 59) hx hb dX4_spring_21 (by rw [c5]; decide) (by rw [c5]; decide) (by rw [c5]; decide) (by decide) ?_
            refine lv_aload_n hx hb dX4_spring_80 rfl (lv_at hl 0 rfl) ?_
            refine get5 C0 hK hW iz1 (al5 hiz1) 3 (by decide) wFL_X4_97 rfl rfl dX4_spring_81 ?_
            cases hF
            exact retI C0 hr hlk hW hS dX4_spring_84
          · rw [if_neg c5] at hF
            by_cases c7 : a2 = 4
            · rw [if_pos c7] at hF
              refine lv_tableIn (tgt := 85) (off := 64) hx hb dX4_spring_21 (by rw [c7]; decide) (by rw [c7]; decide) (by rw [c7]; decide) (by decide) ?_
              refine lv_aload_n hx hb dX4_spring_85 rfl (lv_at hl 0 rfl) ?_
              refine get5 C0 hK hW iz1 (al5 hiz1) 4 (by decide) wFL_X4_72 rfl rfl dX4_spring_86 ?_
              refine lv_if_eq (tgt := 96) hx hb dX4_spring_89 (by decide) (fun c6 => ?_) (fun c6 => ?_)
              · rw [if_pos c6] at hF
                refine lv_iconst (v := 0) hx hb dX4_spring_96 (by decide) ?_
                cases hF
                exact retI C0 hr hlk hW hS dX4_spring_97
              · rw [if_neg c6] at hF
                refine lv_iconst (v := 1) hx hb dX4_spring_92 (by decide) ?_
                refine lv_goto (tgt := 97) hx hb dX4_spring_93 (by decide) ?_
                cases hF
                exact retI C0 hr hlk hW hS dX4_spring_97
            · rw [if_neg c7] at hF
              by_cases c9 : a2 = 5
              · rw [if_pos c9] at hF
                refine lv_tableIn (tgt := 98) (off := 77) hx hb dX4_spring_21 (by rw [c9]; decide) (by rw [c9]; decide) (by rw [c9]; decide) (by decide) ?_
                refine lv_aload_n hx hb dX4_spring_98 rfl (lv_at hl 1 rfl) ?_
                refine lv_iload_n hx hb dX4_spring_99 rfl (lv_at hl 2 rfl) ?_
                obtain ⟨z8, hz8, hF⟩ := bnd hF
                refine inI (runV C0 hlo hK hZ hW hS (kX4_birdsDrivenBy l lo g h _ a1  _ _ hz8) wCO_X4_birdsDrivenBy wML_X4_100 wIM_X4_birdsDrivenBy wSE_X4_X4_birdsDrivenBy wIN_X4 hdX4_birdsDrivenBy ⟨Nat.le_of_ble_eq_true rfl, Nat.le_of_ble_eq_true rfl⟩ (recvK hK hW (al0 h 0 (by decide)) (ct0 0) rfl) rfl hl.1 rfl (Nat.le_of_ble_eq_true rfl) dX4_spring_100 ⟨Nat.le_of_ble_eq_true rfl, Nat.le_of_ble_eq_true rfl⟩) hS (fun H locs hW hS => ?_)
                cases hF
                exact retI C0 hr hlk hW hS dX4_spring_103
              · rw [if_neg c9] at hF
                by_cases c11 : a2 = 6
                · rw [if_pos c11] at hF
                  refine lv_tableIn (tgt := 104) (off := 83) hx hb dX4_spring_21 (by rw [c11]; decide) (by rw [c11]; decide) (by rw [c11]; decide) (by decide) ?_
                  refine lv_aload_n hx hb dX4_spring_104 rfl (lv_at hl 1 rfl) ?_
                  refine lv_iload_n hx hb dX4_spring_105 rfl (lv_at hl 2 rfl) ?_
                  obtain ⟨z10, hz10, hF⟩ := bnd hF
                  refine inI (runV C0 hlo hK hZ hW hS (kX4_loadOn l lo g h _ a1  _ _ hz10) wCO_X4_loadOn wML_X4_103 wIM_X4_loadOn wSE_X4_X4_loadOn wIN_X4 hdX4_loadOn ⟨Nat.le_of_ble_eq_true rfl, Nat.le_of_ble_eq_true rfl⟩ (recvK hK hW (al0 h 0 (by decide)) (ct0 0) rfl) rfl hl.1 rfl (Nat.le_of_ble_eq_true rfl) dX4_spring_106 ⟨Nat.le_of_ble_eq_true rfl, Nat.le_of_ble_eq_true rfl⟩) hS (fun H locs hW hS => ?_)
                  cases hF
                  exact retI C0 hr hlk hW hS dX4_spring_109
                · rw [if_neg c11] at hF
                  have t0 := lv_neT c2 (a := 0) (by decide)
                  have t1 := lv_neT c3 (a := 1) (by decide)
                  have t2 := lv_neT c4 (a := 2) (by decide)
                  have t3 := lv_neT c5 (a := 3) (by decide)
                  have t4 := lv_neT c7 (a := 4) (by decide)
                  have t5 := lv_neT c9 (a := 5) (by decide)
                  have t6 := lv_neT c11 (a := 6) (by decide)
                  refine lv_tableOut (tgt := 110) hx hb dX4_spring_21 (by omega) (by decide) ?_
                  cases hF
theorem hdX4_engage : yX4_engage.cls = RX4 ∧ yX4_engage.cls ≠ "java/lang/invoke/MethodHandle" ∧ yX4_engage.cls ≠ "java/lang/invoke/VarHandle" ∧ (parseMethodDescriptor yX4_engage.desc).map (fun d => d.parameters.length) = some 2 := by decide +kernel
def FX4_engage (ns nb : Nat) (σ : Sg) (a1 : Int32) (a2 : Int32) : Option ((Nat ⊕ Int32) × Sg) :=
  (FX4_birdAt ns nb σ a1).bind fun z1 => oc z1.1 (some (.inl 1, z1.2)) (fun iz1 => if iz1 < nb then (if a2 = 0 then (if (a2 = 0 ∨ a2 = 1) then (if ((z1.2.1 6 iz1 9) = 0 ∨ (z1.2.1 6 iz1 9) = 1) then (some (.inr (z1.2.1 6 iz1 9), (sI z1.2 6 iz1 9 a2))) else none) else none) else (if (z1.2.1 6 iz1 9) = 0 then ((FX4_springAt ns nb z1.2 (z1.2.1 6 iz1 0)).bind fun z4 => oc z4.1 ((FX0_startAnew ns nb z4.2 iz1 0).bind fun z5 => if (a2 = 0 ∨ a2 = 1) then (if ((z1.2.1 6 iz1 9) = 0 ∨ (z1.2.1 6 iz1 9) = 1) then (some (.inr (z1.2.1 6 iz1 9), (sI z5 6 iz1 9 a2))) else none) else none) (fun iz4 => if iz4 < ns then ((FX0_startAnew ns nb z4.2 iz1 (z4.2.2 5 iz4 2)).bind fun z6 => if (a2 = 0 ∨ a2 = 1) then (if ((z1.2.1 6 iz1 9) = 0 ∨ (z1.2.1 6 iz1 9) = 1) then (some (.inr (z1.2.1 6 iz1 9), (sI z6 6 iz1 9 a2))) else none) else none) else none)) else (if (a2 = 0 ∨ a2 = 1) then (if ((z1.2.1 6 iz1 9) = 0 ∨ (z1.2.1 6 iz1 9) = 1) then (some (.inr (z1.2.1 6 iz1 9), (sI z1.2 6 iz1 9 a2))) else none) else none))) else none)
set_option maxHeartbeats 4000000 in
set_option maxRecDepth 100000 in
theorem kX4_engage (l : Launch) (hnt : l.stackTraces = false) (lo : Nat) (g : Gx) (h : Sh) (σ : Sg) (a1 : Int32) (a2 : Int32)  (res : (Nat ⊕ Int32) × Sg) (hF : FX4_engage h.1 h.2.1 σ a1 a2 = some res) : MX l yX4_engage (ws_ yX4_engage cX4_engage 6 (some .boolean)) 6 130 1 6 lo g h [.ref (h.2.2 0 0), .int a1, .int a2] σ res := by
  refine ofX (own := RX4) (by decide +kernel) rfl (fun p e s m below meth c C0 hr hlk hlo hK hZ hW hS htb ls hl => ?_) (Nat.le_of_ble_eq_true rfl)
  have hx := C0.1
  have hb := C0.2.1
  have hl : lv_has ls 6 [(0, .ref (h.2.2 0 0)), (1, .int a1), (2, .int a2)] := hl
  unfold FX4_engage at hF
  refine lv_aload_n hx hb dX4_engage_0 rfl (lv_at hl 0 rfl) ?_
  refine lv_iload_n hx hb dX4_engage_1 rfl (lv_at hl 1 rfl) ?_
  obtain ⟨z1, hz1, hF⟩ := bnd hF
  refine inR (runV C0 hlo hK hZ hW hS (kX4_birdAt l lo g h _ a1  _ _ hz1) wCO_X4_birdAt wML_X4_122 wIM_X4_birdAt wSE_X4_X4_birdAt wIN_X4 hdX4_birdAt ⟨Nat.le_of_ble_eq_true rfl, Nat.le_of_ble_eq_true rfl⟩ (recvK hK hW (al0 h 0 (by decide)) (ct0 0) rfl) rfl hl.1 rfl (Nat.le_of_ble_eq_true rfl) dX4_engage_2 ⟨Nat.le_of_ble_eq_true rfl, Nat.le_of_ble_eq_true rfl⟩) hS (fun H locs hW hS => ?_)
  refine nspl (fun nz1 => ?_) (fun iz1 nz1 => ?_)
  · rw [nz1, oc_n] at hF
    refine lv_astore_nN (lv' := [(3, .null), (0, .ref (h.2.2 0 0)), (1, .int a1), (2, .int a2)]) hx hb dX4_engage_5 rfl hl (by decide) rfl (fun ls hl => ?_)
    refine lv_aload_nN hx hb dX4_engage_6 rfl (lv_at hl 0 rfl) ?_
    refine lv_ifnonnullN hx hb dX4_engage_7 ?_
    cases hF
    exact thrS (k := 1) (text := "no such bird") C0 hnt hlk hK hZ hW hS hl.1 htb exs1 fit1 wCL_X4_55 wIN_java_lang_IndexOutOfBoundsException vxA1 vxB1 vxO1 (by decide) dX4_engage_10 dX4_engage_13 dX4_engage_14 dX4_engage_16 dX4_engage_19 (Nat.le_of_ble_eq_true rfl) (Nat.le_of_ble_eq_true rfl) (Nat.le_of_ble_eq_true rfl) (Nat.le_of_ble_eq_true rfl) rfl
  · rw [nz1, oc_s] at hF
    obtain ⟨hiz1, hF⟩ := grp hF
    refine lv_astore_n (lv' := [(3, .ref (h.2.2 6 iz1)), (0, .ref (h.2.2 0 0)), (1, .int a1), (2, .int a2)]) hx hb dX4_engage_5 rfl hl (by decide) rfl (fun ls hl => ?_)
    refine lv_aload_n hx hb dX4_engage_6 rfl (lv_at hl 0 rfl) ?_
    refine lv_ifnonnull (tgt := 20) hx hb dX4_engage_7 (by decide) ?_
    refine lv_aload_n hx hb dX4_engage_20 rfl (lv_at hl 0 rfl) ?_
    refine get6 C0 hK hW iz1 (al6 6 hiz1 (by decide)) 9 (by decide) wFL_X4_128 rfl rfl dX4_engage_21 ?_
    refine lv_istore (lv' := [(4, .int (z1.2.1 6 iz1 9)), (3, .ref (h.2.2 6 iz1)), (0, .ref (h.2.2 0 0)), (1, .int a1), (2, .int a2)]) hx hb dX4_engage_24 hl (by decide) rfl (fun ls hl => ?_)
    refine lv_iload_n hx hb dX4_engage_26 rfl (lv_at hl 4 rfl) ?_
    refine lv_if_eq (tgt := 63) hx hb dX4_engage_27 (by decide) (fun c2 => ?_) (fun c2 => ?_)
    · rw [if_pos c2] at hF
      refine lv_aload_n hx hb dX4_engage_63 rfl (lv_at hl 1 rfl) ?_
      refine lv_iload_n hx hb dX4_engage_64 rfl (lv_at hl 4 rfl) ?_
      obtain ⟨hz, hF⟩ := grp hF
      refine put6_9 C0 hK hW hS iz1 (al6 6 hiz1 (by decide)) hz wFL_X4_128 dX4_engage_65 (fun H locs hW hS => ?_)
      refine lv_iload hx hb dX4_engage_68 (lv_at hl 0 rfl) ?_
      obtain ⟨hz, hF⟩ := grp hF
      cases hF
      refine W.widen (k := 1) (n := 6) (Nat.le_of_ble_eq_true rfl) (Nat.le_of_ble_eq_true rfl) ?_
      exact vx_ret (retXZ C0 hr hlk hz rfl hW hS dX4_engage_70)
    · rw [if_neg c2] at hF
      refine lv_iload hx hb dX4_engage_30 (lv_at hl 0 rfl) ?_
      refine lv_if_ne (tgt := 63) hx hb dX4_engage_32 (by decide) (fun c3 => ?_) (fun c3 => ?_)
      · rw [if_neg c3] at hF
        refine lv_aload_n hx hb dX4_engage_63 rfl (lv_at hl 1 rfl) ?_
        refine lv_iload_n hx hb dX4_engage_64 rfl (lv_at hl 4 rfl) ?_
        obtain ⟨hz, hF⟩ := grp hF
        refine put6_9 C0 hK hW hS iz1 (al6 6 hiz1 (by decide)) hz wFL_X4_128 dX4_engage_65 (fun H locs hW hS => ?_)
        refine lv_iload hx hb dX4_engage_68 (lv_at hl 0 rfl) ?_
        obtain ⟨hz, hF⟩ := grp hF
        cases hF
        refine W.widen (k := 1) (n := 6) (Nat.le_of_ble_eq_true rfl) (Nat.le_of_ble_eq_true rfl) ?_
        exact vx_ret (retXZ C0 hr hlk hz rfl hW hS dX4_engage_70)
      · rw [if_pos c3] at hF
        refine lv_aload_n hx hb dX4_engage_35 rfl (lv_at hl 2 rfl) ?_
        refine lv_aload_n hx hb dX4_engage_36 rfl (lv_at hl 1 rfl) ?_
        refine get6 C0 hK hW iz1 (al6 6 hiz1 (by decide)) 0 (by decide) wFL_X4_131 rfl rfl dX4_engage_37 ?_
        obtain ⟨z4, hz4, hF⟩ := bnd hF
        refine inR (runV C0 hlo hK hZ hW hS (kX4_springAt l lo g h _ (z1.2.1 6 iz1 0)  _ _ hz4) wCO_X4_springAt wML_X4_51 wIM_X4_springAt wSE_X4_X4_springAt wIN_X4 hdX4_springAt ⟨Nat.le_of_ble_eq_true rfl, Nat.le_of_ble_eq_true rfl⟩ (recvK hK hW (al0 h 0 (by decide)) (ct0 0) rfl) rfl hl.1 rfl (Nat.le_of_ble_eq_true rfl) dX4_engage_40 ⟨Nat.le_of_ble_eq_true rfl, Nat.le_of_ble_eq_true rfl⟩) hS (fun H locs hW hS => ?_)
        refine nspl (fun nz4 => ?_) (fun iz4 nz4 => ?_)
        · rw [nz4, oc_n] at hF
          refine lv_astoreN (lv' := [(5, .null), (4, .int (z1.2.1 6 iz1 9)), (3, .ref (h.2.2 6 iz1)), (0, .ref (h.2.2 0 0)), (1, .int a1), (2, .int a2)]) hx hb dX4_engage_43 hl (by decide) rfl (fun ls hl => ?_)
          refine lv_aload_n hx hb dX4_engage_45 rfl (lv_at hl 2 rfl) ?_
          refine lv_aloadN hx hb dX4_engage_46 (lv_at hl 0 rfl) ?_
          refine lv_ifnonnullN hx hb dX4_engage_48 ?_
          refine lv_lconst (v := 0) hx hb dX4_engage_51 (by decide) ?_
          refine lv_goto (tgt := 60) hx hb dX4_engage_52 (by decide) ?_
          obtain ⟨z5, hz5, hF⟩ := bnd hF
          refine inV (runV C0 hlo hK hZ hW hS (kX0_startAnew l lo g h _ iz1 0 hiz1 _ hz5) wCO_X0_startAnew wML_X4_134 wIM_X0_startAnew wSE_X0_X0_startAnew wIN_X0 hdX0_startAnew ⟨Nat.le_of_ble_eq_true rfl, Nat.le_of_ble_eq_true rfl⟩ (recvK hK hW (al6 6 hiz1 (by decide)) (ct6 iz1) rfl) rfl hl.1 rfl (Nat.le_of_ble_eq_true rfl) dX4_engage_60 ⟨Nat.le_of_ble_eq_true rfl, Nat.le_of_ble_eq_true rfl⟩) hS (fun H locs hW hS => ?_)
          refine lv_aload_n hx hb dX4_engage_63 rfl (lv_at hl 2 rfl) ?_
          refine lv_iload_n hx hb dX4_engage_64 rfl (lv_at hl 5 rfl) ?_
          obtain ⟨hz, hF⟩ := grp hF
          refine put6_9 C0 hK hW hS iz1 (al6 6 hiz1 (by decide)) hz wFL_X4_128 dX4_engage_65 (fun H locs hW hS => ?_)
          refine lv_iload hx hb dX4_engage_68 (lv_at hl 1 rfl) ?_
          obtain ⟨hz, hF⟩ := grp hF
          cases hF
          refine W.widen (k := 1) (n := 6) (Nat.le_of_ble_eq_true rfl) (Nat.le_of_ble_eq_true rfl) ?_
          exact vx_ret (retXZ C0 hr hlk hz rfl hW hS dX4_engage_70)
        · rw [nz4, oc_s] at hF
          obtain ⟨hiz4, hF⟩ := grp hF
          refine lv_astore (lv' := [(5, .ref (h.2.2 5 iz4)), (4, .int (z1.2.1 6 iz1 9)), (3, .ref (h.2.2 6 iz1)), (0, .ref (h.2.2 0 0)), (1, .int a1), (2, .int a2)]) hx hb dX4_engage_43 hl (by decide) rfl (fun ls hl => ?_)
          refine lv_aload_n hx hb dX4_engage_45 rfl (lv_at hl 2 rfl) ?_
          refine lv_aload hx hb dX4_engage_46 (lv_at hl 0 rfl) ?_
          refine lv_ifnonnull (tgt := 55) hx hb dX4_engage_48 (by decide) ?_
          refine lv_aload hx hb dX4_engage_55 (lv_at hl 0 rfl) ?_
          refine get5 C0 hK hW iz4 (al5 hiz4) 2 (by decide) wFL_X4_93 rfl rfl dX4_engage_57 ?_
          obtain ⟨z6, hz6, hF⟩ := bnd hF
          refine inV (runV C0 hlo hK hZ hW hS (kX0_startAnew l lo g h _ iz1 (z4.2.2 5 iz4 2) hiz1 _ hz6) wCO_X0_startAnew wML_X4_134 wIM_X0_startAnew wSE_X0_X0_startAnew wIN_X0 hdX0_startAnew ⟨Nat.le_of_ble_eq_true rfl, Nat.le_of_ble_eq_true rfl⟩ (recvK hK hW (al6 6 hiz1 (by decide)) (ct6 iz1) rfl) rfl hl.1 rfl (Nat.le_of_ble_eq_true rfl) dX4_engage_60 ⟨Nat.le_of_ble_eq_true rfl, Nat.le_of_ble_eq_true rfl⟩) hS (fun H locs hW hS => ?_)
          refine lv_aload_n hx hb dX4_engage_63 rfl (lv_at hl 2 rfl) ?_
          refine lv_iload_n hx hb dX4_engage_64 rfl (lv_at hl 5 rfl) ?_
          obtain ⟨hz, hF⟩ := grp hF
          refine put6_9 C0 hK hW hS iz1 (al6 6 hiz1 (by decide)) hz wFL_X4_128 dX4_engage_65 (fun H locs hW hS => ?_)
          refine lv_iload hx hb dX4_engage_68 (lv_at hl 1 rfl) ?_
          obtain ⟨hz, hF⟩ := grp hF
          cases hF
          refine W.widen (k := 1) (n := 6) (Nat.le_of_ble_eq_true rfl) (Nat.le_of_ble_eq_true rfl) ?_
          exact vx_ret (retXZ C0 hr hlk hz rfl hW hS dX4_engage_70)
theorem hdX4_pin : yX4_pin.cls = RX4 ∧ yX4_pin.cls ≠ "java/lang/invoke/MethodHandle" ∧ yX4_pin.cls ≠ "java/lang/invoke/VarHandle" ∧ (parseMethodDescriptor yX4_pin.desc).map (fun d => d.parameters.length) = some 3 := by decide +kernel
def FX4_pin (ns nb : Nat) (σ : Sg) (a1 : Int32) (a2 : Int32) (a3 : Int32) : Option ((Nat ⊕ Int32) × Sg) :=
  (FX4_birdAt ns nb σ a1).bind fun z1 => oc z1.1 (some (.inl 1, z1.2)) (fun iz1 => if iz1 < nb then ((FX0_hasPlace ns nb z1.2 iz1 a2).bind fun z2 => if z2.1 = 0 then (some (.inl 2, z2.2)) else ((FX4_isIn ns nb z2.2 a3 0 5).bind fun z4 => if z4.1 = 0 then (some (.inl 2, z4.2)) else ((FX0_hasPin ns nb z4.2 iz1 a2 a3).bind fun z6 => if z6.1 = 0 then (if (z6.2.1 6 iz1 8) < 24 then ((FX0_turnPin ns nb z6.2 iz1 a2 a3).bind fun z10 => some (.inr (z10.1 6 iz1 8), z10)) else (some (.inl 3, z6.2))) else ((FX0_turnPin ns nb z6.2 iz1 a2 a3).bind fun z8 => some (.inr (z8.1 6 iz1 8), z8))))) else none)
set_option maxHeartbeats 4000000 in
set_option maxRecDepth 100000 in
theorem kX4_pin (l : Launch) (hnt : l.stackTraces = false) (lo : Nat) (g : Gx) (h : Sh) (σ : Sg) (a1 : Int32) (a2 : Int32) (a3 : Int32)  (res : (Nat ⊕ Int32) × Sg) (hF : FX4_pin h.1 h.2.1 σ a1 a2 a3 = some res) : MX l yX4_pin (ws_ yX4_pin cX4_pin 5 (some .int)) 6 130 1 6 lo g h [.ref (h.2.2 0 0), .int a1, .int a2, .int a3] σ res := by
  refine ofX (own := RX4) (by decide +kernel) rfl (fun p e s m below meth c C0 hr hlk hlo hK hZ hW hS htb ls hl => ?_) (Nat.le_of_ble_eq_true rfl)
  have hx := C0.1
  have hb := C0.2.1
  have hl : lv_has ls 5 [(0, .ref (h.2.2 0 0)), (1, .int a1), (2, .int a2), (3, .int a3)] := hl
  unfold FX4_pin at hF
  refine lv_aload_n hx hb dX4_pin_0 rfl (lv_at hl 0 rfl) ?_
  refine lv_iload_n hx hb dX4_pin_1 rfl (lv_at hl 1 rfl) ?_
  obtain ⟨z1, hz1, hF⟩ := bnd hF
  refine inR (runV C0 hlo hK hZ hW hS (kX4_birdAt l lo g h _ a1  _ _ hz1) wCO_X4_birdAt wML_X4_122 wIM_X4_birdAt wSE_X4_X4_birdAt wIN_X4 hdX4_birdAt ⟨Nat.le_of_ble_eq_true rfl, Nat.le_of_ble_eq_true rfl⟩ (recvK hK hW (al0 h 0 (by decide)) (ct0 0) rfl) rfl hl.1 rfl (Nat.le_of_ble_eq_true rfl) dX4_pin_2 ⟨Nat.le_of_ble_eq_true rfl, Nat.le_of_ble_eq_true rfl⟩) hS (fun H locs hW hS => ?_)
  refine nspl (fun nz1 => ?_) (fun iz1 nz1 => ?_)
  · rw [nz1, oc_n] at hF
    refine lv_astoreN (lv' := [(4, .null), (0, .ref (h.2.2 0 0)), (1, .int a1), (2, .int a2), (3, .int a3)]) hx hb dX4_pin_5 hl (by decide) rfl (fun ls hl => ?_)
    refine lv_aloadN hx hb dX4_pin_7 (lv_at hl 0 rfl) ?_
    refine lv_ifnonnullN hx hb dX4_pin_9 ?_
    cases hF
    exact thrS (k := 1) (text := "no such bird") C0 hnt hlk hK hZ hW hS hl.1 htb exs1 fit1 wCL_X4_55 wIN_java_lang_IndexOutOfBoundsException vxA1 vxB1 vxO1 (by decide) dX4_pin_12 dX4_pin_15 dX4_pin_16 dX4_pin_18 dX4_pin_21 (Nat.le_of_ble_eq_true rfl) (Nat.le_of_ble_eq_true rfl) (Nat.le_of_ble_eq_true rfl) (Nat.le_of_ble_eq_true rfl) rfl
  · rw [nz1, oc_s] at hF
    obtain ⟨hiz1, hF⟩ := grp hF
    refine lv_astore (lv' := [(4, .ref (h.2.2 6 iz1)), (0, .ref (h.2.2 0 0)), (1, .int a1), (2, .int a2), (3, .int a3)]) hx hb dX4_pin_5 hl (by decide) rfl (fun ls hl => ?_)
    refine lv_aload hx hb dX4_pin_7 (lv_at hl 0 rfl) ?_
    refine lv_ifnonnull (tgt := 22) hx hb dX4_pin_9 (by decide) ?_
    refine lv_aload hx hb dX4_pin_22 (lv_at hl 0 rfl) ?_
    refine lv_iload_n hx hb dX4_pin_24 rfl (lv_at hl 3 rfl) ?_
    obtain ⟨z2, hz2, hF⟩ := bnd hF
    refine inI (runV C0 hlo hK hZ hW hS (kX0_hasPlace l lo g h _ iz1 a2 hiz1 _ _ hz2) wCO_X0_hasPlace wML_X4_138 wIM_X0_hasPlace wSE_X0_X0_hasPlace wIN_X0 hdX0_hasPlace ⟨Nat.le_of_ble_eq_true rfl, Nat.le_of_ble_eq_true rfl⟩ (recvK hK hW (al6 6 hiz1 (by decide)) (ct6 iz1) rfl) rfl hl.1 rfl (Nat.le_of_ble_eq_true rfl) dX4_pin_25 ⟨Nat.le_of_ble_eq_true rfl, Nat.le_of_ble_eq_true rfl⟩) hS (fun H locs hW hS => ?_)
    refine lv_if_ne (tgt := 41) hx hb dX4_pin_28 (by decide) (fun c3 => ?_) (fun c3 => ?_)
    · rw [if_neg c3] at hF
      refine lv_iload_n hx hb dX4_pin_41 rfl (lv_at hl 4 rfl) ?_
      refine lv_iconst (v := 0) hx hb dX4_pin_42 (by decide) ?_
      refine lv_iconst (v := 5) hx hb dX4_pin_43 (by decide) ?_
      obtain ⟨z4, hz4, hF⟩ := bnd hF
      refine inI (runS C0 hlo hK hZ hW hS (kX4_isIn l lo g h _ a3 0 5  _ _ hz4) wCO_X4_isIn wML_X4_28 wST_X4_isIn wIN_X4 hdsX4_isIn ⟨Nat.le_of_ble_eq_true rfl, Nat.le_of_ble_eq_true rfl⟩ rfl hl.1 rfl (Nat.le_of_ble_eq_true rfl) dX4_pin_44 ⟨Nat.le_of_ble_eq_true rfl, Nat.le_of_ble_eq_true rfl⟩) hS (fun H locs hW hS => ?_)
      refine lv_if_ne (tgt := 60) hx hb dX4_pin_47 (by decide) (fun c5 => ?_) (fun c5 => ?_)
      · rw [if_neg c5] at hF
        refine lv_aload hx hb dX4_pin_60 (lv_at hl 0 rfl) ?_
        refine lv_iload_n hx hb dX4_pin_62 rfl (lv_at hl 3 rfl) ?_
        refine lv_iload_n hx hb dX4_pin_63 rfl (lv_at hl 4 rfl) ?_
        obtain ⟨z6, hz6, hF⟩ := bnd hF
        refine inI (runV C0 hlo hK hZ hW hS (kX0_hasPin l lo g h _ iz1 a2 a3 hiz1 _ _ hz6) wCO_X0_hasPin wML_X4_146 wIM_X0_hasPin wSE_X0_X0_hasPin wIN_X0 hdX0_hasPin ⟨Nat.le_of_ble_eq_true rfl, Nat.le_of_ble_eq_true rfl⟩ (recvK hK hW (al6 6 hiz1 (by decide)) (ct6 iz1) rfl) rfl hl.1 rfl (Nat.le_of_ble_eq_true rfl) dX4_pin_64 ⟨Nat.le_of_ble_eq_true rfl, Nat.le_of_ble_eq_true rfl⟩) hS (fun H locs hW hS => ?_)
        refine lv_if_ne (tgt := 90) hx hb dX4_pin_67 (by decide) (fun c7 => ?_) (fun c7 => ?_)
        · rw [if_neg c7] at hF
          refine lv_aload hx hb dX4_pin_90 (lv_at hl 0 rfl) ?_
          refine lv_iload_n hx hb dX4_pin_92 rfl (lv_at hl 3 rfl) ?_
          refine lv_iload_n hx hb dX4_pin_93 rfl (lv_at hl 4 rfl) ?_
          obtain ⟨z8, hz8, hF⟩ := bnd hF
          refine inV (runV C0 hlo hK hZ hW hS (kX0_turnPin l lo g h _ iz1 a2 a3 hiz1 _ hz8) wCO_X0_turnPin wML_X4_155 wIM_X0_turnPin wSE_X0_X0_turnPin wIN_X0 hdX0_turnPin ⟨Nat.le_of_ble_eq_true rfl, Nat.le_of_ble_eq_true rfl⟩ (recvK hK hW (al6 6 hiz1 (by decide)) (ct6 iz1) rfl) rfl hl.1 rfl (Nat.le_of_ble_eq_true rfl) dX4_pin_94 ⟨Nat.le_of_ble_eq_true rfl, Nat.le_of_ble_eq_true rfl⟩) hS (fun H locs hW hS => ?_)
          refine lv_aload hx hb dX4_pin_97 (lv_at hl 0 rfl) ?_
          refine get6 C0 hK hW iz1 (al6 6 hiz1 (by decide)) 8 (by decide) wFL_X4_150 rfl rfl dX4_pin_99 ?_
          cases hF
          refine W.widen (k := 1) (n := 6) (Nat.le_of_ble_eq_true rfl) (Nat.le_of_ble_eq_true rfl) ?_
          exact vx_ret (retX C0 hr hlk rfl hW hS dX4_pin_102)
        · rw [if_pos c7] at hF
          refine lv_aload hx hb dX4_pin_70 (lv_at hl 0 rfl) ?_
          refine get6 C0 hK hW iz1 (al6 6 hiz1 (by decide)) 8 (by decide) wFL_X4_150 rfl rfl dX4_pin_72 ?_
          refine lv_bipush (v := 24) hx hb dX4_pin_75 (by decide) ?_
          refine lv_icmp_lt (tgt := 90) hx hb dX4_pin_77 (by decide) (fun c9 => ?_) (fun c9 => ?_)
          · rw [if_pos c9] at hF
            refine lv_aload hx hb dX4_pin_90 (lv_at hl 0 rfl) ?_
            refine lv_iload_n hx hb dX4_pin_92 rfl (lv_at hl 3 rfl) ?_
            refine lv_iload_n hx hb dX4_pin_93 rfl (lv_at hl 4 rfl) ?_
            obtain ⟨z10, hz10, hF⟩ := bnd hF
            refine inV (runV C0 hlo hK hZ hW hS (kX0_turnPin l lo g h _ iz1 a2 a3 hiz1 _ hz10) wCO_X0_turnPin wML_X4_155 wIM_X0_turnPin wSE_X0_X0_turnPin wIN_X0 hdX0_turnPin ⟨Nat.le_of_ble_eq_true rfl, Nat.le_of_ble_eq_true rfl⟩ (recvK hK hW (al6 6 hiz1 (by decide)) (ct6 iz1) rfl) rfl hl.1 rfl (Nat.le_of_ble_eq_true rfl) dX4_pin_94 ⟨Nat.le_of_ble_eq_true rfl, Nat.le_of_ble_eq_true rfl⟩) hS (fun H locs hW hS => ?_)
            refine lv_aload hx hb dX4_pin_97 (lv_at hl 0 rfl) ?_
            refine get6 C0 hK hW iz1 (al6 6 hiz1 (by decide)) 8 (by decide) wFL_X4_150 rfl rfl dX4_pin_99 ?_
            cases hF
            refine W.widen (k := 1) (n := 6) (Nat.le_of_ble_eq_true rfl) (Nat.le_of_ble_eq_true rfl) ?_
            exact vx_ret (retX C0 hr hlk rfl hW hS dX4_pin_102)
          · rw [if_neg c9] at hF
            cases hF
            exact thrS (k := 3) (text := "there are 24 pins") C0 hnt hlk hK hZ hW hS hl.1 htb exs3 fit3 wCL_X4_43 wIN_java_lang_IllegalStateException vxA3 vxB3 vxO3 (by decide) dX4_pin_80 dX4_pin_83 dX4_pin_84 dX4_pin_86 dX4_pin_89 (Nat.le_of_ble_eq_true rfl) (Nat.le_of_ble_eq_true rfl) (Nat.le_of_ble_eq_true rfl) (Nat.le_of_ble_eq_true rfl) rfl
      · rw [if_pos c5] at hF
        cases hF
        exact thrS (k := 2) (text := "lever is not 0 to 5") C0 hnt hlk hK hZ hW hS hl.1 htb exs2 fit2 wCL_X4_32 wIN_java_lang_IllegalArgumentException vxA2 vxB2 vxO2 (by decide) dX4_pin_50 dX4_pin_53 dX4_pin_54 dX4_pin_56 dX4_pin_59 (Nat.le_of_ble_eq_true rfl) (Nat.le_of_ble_eq_true rfl) (Nat.le_of_ble_eq_true rfl) (Nat.le_of_ble_eq_true rfl) rfl
    · rw [if_pos c3] at hF
      cases hF
      exact thrS (k := 2) (text := "place is not on the barrel") C0 hnt hlk hK hZ hW hS hl.1 htb exs2 fit2 wCL_X4_32 wIN_java_lang_IllegalArgumentException vxA2 vxB2 vxO2 (by decide) dX4_pin_31 dX4_pin_34 dX4_pin_35 dX4_pin_37 dX4_pin_40 (Nat.le_of_ble_eq_true rfl) (Nat.le_of_ble_eq_true rfl) (Nat.le_of_ble_eq_true rfl) (Nat.le_of_ble_eq_true rfl) rfl
theorem hdX4_tune : yX4_tune.cls = RX4 ∧ yX4_tune.cls ≠ "java/lang/invoke/MethodHandle" ∧ yX4_tune.cls ≠ "java/lang/invoke/VarHandle" ∧ (parseMethodDescriptor yX4_tune.desc).map (fun d => d.parameters.length) = some 3 := by decide +kernel
def FX4_tune (ns nb : Nat) (σ : Sg) (a1 : Int32) (a2 : Int32) (a3 : Int32) : Option ((Nat ⊕ Int32) × Sg) :=
  (FX4_birdAt ns nb σ a1).bind fun z1 => oc z1.1 (some (.inl 1, z1.2)) (fun iz1 => if iz1 < nb then ((FX4_isIn ns nb z1.2 a2 0 5).bind fun z2 => if z2.1 = 0 then (some (.inl 1, z2.2)) else ((FX4_isIn ns nb z2.2 a3 0 87).bind fun z4 => if z4.1 = 0 then (some (.inl 2, z4.2)) else ((FX4_at ns nb z4.2 8 iz1 a2).bind fun z6 => (FX4_put ns nb z6.2 8 iz1 a2 a3).bind fun z7 => some (.inr z6.1, z7)))) else none)
set_option maxHeartbeats 4000000 in
set_option maxRecDepth 100000 in
theorem kX4_tune (l : Launch) (hnt : l.stackTraces = false) (lo : Nat) (g : Gx) (h : Sh) (σ : Sg) (a1 : Int32) (a2 : Int32) (a3 : Int32)  (res : (Nat ⊕ Int32) × Sg) (hF : FX4_tune h.1 h.2.1 σ a1 a2 a3 = some res) : MX l yX4_tune (ws_ yX4_tune cX4_tune 6 (some .int)) 6 130 1 6 lo g h [.ref (h.2.2 0 0), .int a1, .int a2, .int a3] σ res := by
  refine ofX (own := RX4) (by decide +kernel) rfl (fun p e s m below meth c C0 hr hlk hlo hK hZ hW hS htb ls hl => ?_) (Nat.le_of_ble_eq_true rfl)
  have hx := C0.1
  have hb := C0.2.1
  have hl : lv_has ls 6 [(0, .ref (h.2.2 0 0)), (1, .int a1), (2, .int a2), (3, .int a3)] := hl
  unfold FX4_tune at hF
  refine lv_aload_n hx hb dX4_tune_0 rfl (lv_at hl 0 rfl) ?_
  refine lv_iload_n hx hb dX4_tune_1 rfl (lv_at hl 1 rfl) ?_
  obtain ⟨z1, hz1, hF⟩ := bnd hF
  refine inR (runV C0 hlo hK hZ hW hS (kX4_birdAt l lo g h _ a1  _ _ hz1) wCO_X4_birdAt wML_X4_122 wIM_X4_birdAt wSE_X4_X4_birdAt wIN_X4 hdX4_birdAt ⟨Nat.le_of_ble_eq_true rfl, Nat.le_of_ble_eq_true rfl⟩ (recvK hK hW (al0 h 0 (by decide)) (ct0 0) rfl) rfl hl.1 rfl (Nat.le_of_ble_eq_true rfl) dX4_tune_2 ⟨Nat.le_of_ble_eq_true rfl, Nat.le_of_ble_eq_true rfl⟩) hS (fun H locs hW hS => ?_)
  refine nspl (fun nz1 => ?_) (fun iz1 nz1 => ?_)
  · rw [nz1, oc_n] at hF
    refine lv_astoreN (lv' := [(4, .null), (0, .ref (h.2.2 0 0)), (1, .int a1), (2, .int a2), (3, .int a3)]) hx hb dX4_tune_5 hl (by decide) rfl (fun ls hl => ?_)
    refine lv_aloadN hx hb dX4_tune_7 (lv_at hl 0 rfl) ?_
    refine lv_ifnonnullN hx hb dX4_tune_9 ?_
    cases hF
    exact thrS (k := 1) (text := "no such bird") C0 hnt hlk hK hZ hW hS hl.1 htb exs1 fit1 wCL_X4_55 wIN_java_lang_IndexOutOfBoundsException vxA1 vxB1 vxO1 (by decide) dX4_tune_12 dX4_tune_15 dX4_tune_16 dX4_tune_18 dX4_tune_21 (Nat.le_of_ble_eq_true rfl) (Nat.le_of_ble_eq_true rfl) (Nat.le_of_ble_eq_true rfl) (Nat.le_of_ble_eq_true rfl) rfl
  · rw [nz1, oc_s] at hF
    obtain ⟨hiz1, hF⟩ := grp hF
    refine lv_astore (lv' := [(4, .ref (h.2.2 6 iz1)), (0, .ref (h.2.2 0 0)), (1, .int a1), (2, .int a2), (3, .int a3)]) hx hb dX4_tune_5 hl (by decide) rfl (fun ls hl => ?_)
    refine lv_aload hx hb dX4_tune_7 (lv_at hl 0 rfl) ?_
    refine lv_ifnonnull (tgt := 22) hx hb dX4_tune_9 (by decide) ?_
    refine lv_iload_n hx hb dX4_tune_22 rfl (lv_at hl 3 rfl) ?_
    refine lv_iconst (v := 0) hx hb dX4_tune_23 (by decide) ?_
    refine lv_iconst (v := 5) hx hb dX4_tune_24 (by decide) ?_
    obtain ⟨z2, hz2, hF⟩ := bnd hF
    refine inI (runS C0 hlo hK hZ hW hS (kX4_isIn l lo g h _ a2 0 5  _ _ hz2) wCO_X4_isIn wML_X4_28 wST_X4_isIn wIN_X4 hdsX4_isIn ⟨Nat.le_of_ble_eq_true rfl, Nat.le_of_ble_eq_true rfl⟩ rfl hl.1 rfl (Nat.le_of_ble_eq_true rfl) dX4_tune_25 ⟨Nat.le_of_ble_eq_true rfl, Nat.le_of_ble_eq_true rfl⟩) hS (fun H locs hW hS => ?_)
    refine lv_if_ne (tgt := 41) hx hb dX4_tune_28 (by decide) (fun c3 => ?_) (fun c3 => ?_)
    · rw [if_neg c3] at hF
      refine lv_iload_n hx hb dX4_tune_41 rfl (lv_at hl 4 rfl) ?_
      refine lv_iconst (v := 0) hx hb dX4_tune_42 (by decide) ?_
      refine lv_bipush (v := 87) hx hb dX4_tune_43 (by decide) ?_
      obtain ⟨z4, hz4, hF⟩ := bnd hF
      refine inI (runS C0 hlo hK hZ hW hS (kX4_isIn l lo g h _ a3 0 87  _ _ hz4) wCO_X4_isIn wML_X4_28 wST_X4_isIn wIN_X4 hdsX4_isIn ⟨Nat.le_of_ble_eq_true rfl, Nat.le_of_ble_eq_true rfl⟩ rfl hl.1 rfl (Nat.le_of_ble_eq_true rfl) dX4_tune_45 ⟨Nat.le_of_ble_eq_true rfl, Nat.le_of_ble_eq_true rfl⟩) hS (fun H locs hW hS => ?_)
      refine lv_if_ne (tgt := 61) hx hb dX4_tune_48 (by decide) (fun c5 => ?_) (fun c5 => ?_)
      · rw [if_neg c5] at hF
        refine lv_aload hx hb dX4_tune_61 (lv_at hl 0 rfl) ?_
        refine get6 C0 hK hW iz1 (al6 6 hiz1 (by decide)) 6 (by decide) wFL_X4_161 rfl rfl dX4_tune_63 ?_
        refine lv_iload_n hx hb dX4_tune_66 rfl (lv_at hl 3 rfl) ?_
        obtain ⟨z6, hz6, hF⟩ := bnd hF
        refine inI (runS C0 hlo hK hZ hW hS (kX4_at l lo g h _ 8 iz1 a2 (al6 8 hiz1 (by decide)) (by decide) _ _ hz6) wCO_X4_at wML_X4_165 wST_X4_at wIN_X4 hdsX4_at ⟨Nat.le_of_ble_eq_true rfl, Nat.le_of_ble_eq_true rfl⟩ rfl hl.1 rfl (Nat.le_of_ble_eq_true rfl) dX4_tune_67 ⟨Nat.le_of_ble_eq_true rfl, Nat.le_of_ble_eq_true rfl⟩) hS (fun H locs hW hS => ?_)
        refine lv_istore (lv' := [(5, .int z6.1), (4, .ref (h.2.2 6 iz1)), (0, .ref (h.2.2 0 0)), (1, .int a1), (2, .int a2), (3, .int a3)]) hx hb dX4_tune_70 hl (by decide) rfl (fun ls hl => ?_)
        refine lv_aload hx hb dX4_tune_72 (lv_at hl 1 rfl) ?_
        refine get6 C0 hK hW iz1 (al6 6 hiz1 (by decide)) 6 (by decide) wFL_X4_161 rfl rfl dX4_tune_74 ?_
        refine lv_iload_n hx hb dX4_tune_77 rfl (lv_at hl 4 rfl) ?_
        refine lv_iload_n hx hb dX4_tune_78 rfl (lv_at hl 5 rfl) ?_
        obtain ⟨z7, hz7, hF⟩ := bnd hF
        refine inV (runS C0 hlo hK hZ hW hS (kX4_put l lo g h _ 8 iz1 a2 a3 (al6 8 hiz1 (by decide)) (by decide) _ hz7) wCO_X4_put wML_X4_169 wST_X4_put wIN_X4 hdsX4_put ⟨Nat.le_of_ble_eq_true rfl, Nat.le_of_ble_eq_true rfl⟩ rfl hl.1 rfl (Nat.le_of_ble_eq_true rfl) dX4_tune_79 ⟨Nat.le_of_ble_eq_true rfl, Nat.le_of_ble_eq_true rfl⟩) hS (fun H locs hW hS => ?_)
        refine lv_iload hx hb dX4_tune_82 (lv_at hl 0 rfl) ?_
        cases hF
        refine W.widen (k := 1) (n := 6) (Nat.le_of_ble_eq_true rfl) (Nat.le_of_ble_eq_true rfl) ?_
        exact vx_ret (retX C0 hr hlk rfl hW hS dX4_tune_84)
      · rw [if_pos c5] at hF
        cases hF
        exact thrS (k := 2) (text := "note is not 0 to 87") C0 hnt hlk hK hZ hW hS hl.1 htb exs2 fit2 wCL_X4_32 wIN_java_lang_IllegalArgumentException vxA2 vxB2 vxO2 (by decide) dX4_tune_51 dX4_tune_54 dX4_tune_55 dX4_tune_57 dX4_tune_60 (Nat.le_of_ble_eq_true rfl) (Nat.le_of_ble_eq_true rfl) (Nat.le_of_ble_eq_true rfl) (Nat.le_of_ble_eq_true rfl) rfl
    · rw [if_pos c3] at hF
      cases hF
      exact thrS (k := 1) (text := "lever is not 0 to 5") C0 hnt hlk hK hZ hW hS hl.1 htb exs1 fit1 wCL_X4_55 wIN_java_lang_IndexOutOfBoundsException vxA1 vxB1 vxO1 (by decide) dX4_tune_31 dX4_tune_34 dX4_tune_35 dX4_tune_37 dX4_tune_40 (Nat.le_of_ble_eq_true rfl) (Nat.le_of_ble_eq_true rfl) (Nat.le_of_ble_eq_true rfl) (Nat.le_of_ble_eq_true rfl) rfl
theorem hdX4_point : yX4_point.cls = RX4 ∧ yX4_point.cls ≠ "java/lang/invoke/MethodHandle" ∧ yX4_point.cls ≠ "java/lang/invoke/VarHandle" ∧ (parseMethodDescriptor yX4_point.desc).map (fun d => d.parameters.length) = some 4 := by decide +kernel
def FX4_point (ns nb : Nat) (σ : Sg) (a1 : Int32) (a2 : Int32) (a3 : Int32) (a4 : Int32) : Option ((Nat ⊕ Int32) × Sg) :=
  (FX4_birdAt ns nb σ a1).bind fun z1 => oc z1.1 (some (.inl 1, z1.2)) (fun iz1 => if iz1 < nb then ((FX0_camAt ns nb z1.2 iz1 a2).bind fun z2 => oc z2.1 (some (.inl 1, z2.2)) (fun iz2 => if iz2 < 3 * nb then ((FX0_hasPlace ns nb z2.2 iz1 a3).bind fun z3 => if z3.1 = 0 then (some (.inl 2, z3.2)) else ((FX4_isIn ns nb z3.2 a4 (-1) 100).bind fun z5 => if z5.1 = 0 then (some (.inl 2, z5.2)) else ((FX1_hasPoint ns nb z5.2 iz2 a3).bind fun z7 => if a4 = (-1) then (if z7.1 = 0 then (some (.inl 3, z7.2)) else (if z7.1 = 0 then (if (z7.2.1 10 iz2 2) < 8 then (if a4 = (-1) then ((FX1_takePoint ns nb z7.2 iz2 a3 (z7.2.1 6 iz1 2)).bind fun z25 => some (.inr (z25.1 10 iz2 2), z25)) else ((FX1_layPoint ns nb z7.2 iz2 a3 a4 (z7.2.1 6 iz1 2)).bind fun z24 => some (.inr (z24.1 10 iz2 2), z24))) else (some (.inl 3, z7.2))) else (if a4 = (-1) then ((FX1_takePoint ns nb z7.2 iz2 a3 (z7.2.1 6 iz1 2)).bind fun z21 => some (.inr (z21.1 10 iz2 2), z21)) else ((FX1_layPoint ns nb z7.2 iz2 a3 a4 (z7.2.1 6 iz1 2)).bind fun z20 => some (.inr (z20.1 10 iz2 2), z20))))) else (if z7.1 = 0 then (if (z7.2.1 10 iz2 2) < 8 then (if a4 = (-1) then ((FX1_takePoint ns nb z7.2 iz2 a3 (z7.2.1 6 iz1 2)).bind fun z16 => some (.inr (z16.1 10 iz2 2), z16)) else ((FX1_layPoint ns nb z7.2 iz2 a3 a4 (z7.2.1 6 iz1 2)).bind fun z15 => some (.inr (z15.1 10 iz2 2), z15))) else (some (.inl 3, z7.2))) else (if a4 = (-1) then ((FX1_takePoint ns nb z7.2 iz2 a3 (z7.2.1 6 iz1 2)).bind fun z12 => some (.inr (z12.1 10 iz2 2), z12)) else ((FX1_layPoint ns nb z7.2 iz2 a3 a4 (z7.2.1 6 iz1 2)).bind fun z11 => some (.inr (z11.1 10 iz2 2), z11))))))) else none)) else none)
set_option maxHeartbeats 4000000 in
set_option maxRecDepth 100000 in
theorem kX4_point (l : Launch) (hnt : l.stackTraces = false) (lo : Nat) (g : Gx) (h : Sh) (σ : Sg) (a1 : Int32) (a2 : Int32) (a3 : Int32) (a4 : Int32)  (res : (Nat ⊕ Int32) × Sg) (hF : FX4_point h.1 h.2.1 σ a1 a2 a3 a4 = some res) : MX l yX4_point (ws_ yX4_point cX4_point 8 (some .int)) 6 130 1 6 lo g h [.ref (h.2.2 0 0), .int a1, .int a2, .int a3, .int a4] σ res := by
  refine ofX (own := RX4) (by decide +kernel) rfl (fun p e s m below meth c C0 hr hlk hlo hK hZ hW hS htb ls hl => ?_) (Nat.le_of_ble_eq_true rfl)
  have hx := C0.1
  have hb := C0.2.1
  have hl : lv_has ls 8 [(0, .ref (h.2.2 0 0)), (1, .int a1), (2, .int a2), (3, .int a3), (4, .int a4)] := hl
  unfold FX4_point at hF
  refine lv_aload_n hx hb dX4_point_0 rfl (lv_at hl 0 rfl) ?_
  refine lv_iload_n hx hb dX4_point_1 rfl (lv_at hl 1 rfl) ?_
  obtain ⟨z1, hz1, hF⟩ := bnd hF
  refine inR (runV C0 hlo hK hZ hW hS (kX4_birdAt l lo g h _ a1  _ _ hz1) wCO_X4_birdAt wML_X4_122 wIM_X4_birdAt wSE_X4_X4_birdAt wIN_X4 hdX4_birdAt ⟨Nat.le_of_ble_eq_true rfl, Nat.le_of_ble_eq_true rfl⟩ (recvK hK hW (al0 h 0 (by decide)) (ct0 0) rfl) rfl hl.1 rfl (Nat.le_of_ble_eq_true rfl) dX4_point_2 ⟨Nat.le_of_ble_eq_true rfl, Nat.le_of_ble_eq_true rfl⟩) hS (fun H locs hW hS => ?_)
  refine nspl (fun nz1 => ?_) (fun iz1 nz1 => ?_)
  · rw [nz1, oc_n] at hF
    refine lv_astoreN (lv' := [(5, .null), (0, .ref (h.2.2 0 0)), (1, .int a1), (2, .int a2), (3, .int a3), (4, .int a4)]) hx hb dX4_point_5 hl (by decide) rfl (fun ls hl => ?_)
    refine lv_aloadN hx hb dX4_point_7 (lv_at hl 0 rfl) ?_
    refine lv_ifnonnullN hx hb dX4_point_9 ?_
    refine lv_null hx hb dX4_point_12 ?_
    refine lv_goto (tgt := 22) hx hb dX4_point_13 (by decide) ?_
    refine lv_astoreN (lv' := [(6, .null), (5, .null), (0, .ref (h.2.2 0 0)), (1, .int a1), (2, .int a2), (3, .int a3), (4, .int a4)]) hx hb dX4_point_22 hl (by decide) rfl (fun ls hl => ?_)
    refine lv_aloadN hx hb dX4_point_24 (lv_at hl 1 rfl) ?_
    refine lv_ifnullN (tgt := 34) hx hb dX4_point_26 (by decide) ?_
    cases hF
    exact thrS (k := 1) (text := "no such bird or cam") C0 hnt hlk hK hZ hW hS hl.1 htb exs1 fit1 wCL_X4_55 wIN_java_lang_IndexOutOfBoundsException vxA1 vxB1 vxO1 (by decide) dX4_point_34 dX4_point_37 dX4_point_38 dX4_point_40 dX4_point_43 (Nat.le_of_ble_eq_true rfl) (Nat.le_of_ble_eq_true rfl) (Nat.le_of_ble_eq_true rfl) (Nat.le_of_ble_eq_true rfl) rfl
  · rw [nz1, oc_s] at hF
    obtain ⟨hiz1, hF⟩ := grp hF
    refine lv_astore (lv' := [(5, .ref (h.2.2 6 iz1)), (0, .ref (h.2.2 0 0)), (1, .int a1), (2, .int a2), (3, .int a3), (4, .int a4)]) hx hb dX4_point_5 hl (by decide) rfl (fun ls hl => ?_)
    refine lv_aload hx hb dX4_point_7 (lv_at hl 0 rfl) ?_
    refine lv_ifnonnull (tgt := 16) hx hb dX4_point_9 (by decide) ?_
    refine lv_aload hx hb dX4_point_16 (lv_at hl 0 rfl) ?_
    refine lv_iload_n hx hb dX4_point_18 rfl (lv_at hl 3 rfl) ?_
    obtain ⟨z2, hz2, hF⟩ := bnd hF
    refine inR (runV C0 hlo hK hZ hW hS (kX0_camAt l lo g h _ iz1 a2 hiz1 _ _ hz2) wCO_X0_camAt wML_X4_173 wIM_X0_camAt wSE_X0_X0_camAt wIN_X0 hdX0_camAt ⟨Nat.le_of_ble_eq_true rfl, Nat.le_of_ble_eq_true rfl⟩ (recvK hK hW (al6 6 hiz1 (by decide)) (ct6 iz1) rfl) rfl hl.1 rfl (Nat.le_of_ble_eq_true rfl) dX4_point_19 ⟨Nat.le_of_ble_eq_true rfl, Nat.le_of_ble_eq_true rfl⟩) hS (fun H locs hW hS => ?_)
    refine nspl (fun nz2 => ?_) (fun iz2 nz2 => ?_)
    · rw [nz2, oc_n] at hF
      refine lv_astoreN (lv' := [(6, .null), (5, .ref (h.2.2 6 iz1)), (0, .ref (h.2.2 0 0)), (1, .int a1), (2, .int a2), (3, .int a3), (4, .int a4)]) hx hb dX4_point_22 hl (by decide) rfl (fun ls hl => ?_)
      refine lv_aload hx hb dX4_point_24 (lv_at hl 1 rfl) ?_
      refine lv_ifnull hx hb dX4_point_26 ?_
      refine lv_aloadN hx hb dX4_point_29 (lv_at hl 0 rfl) ?_
      refine lv_ifnonnullN hx hb dX4_point_31 ?_
      cases hF
      exact thrS (k := 1) (text := "no such bird or cam") C0 hnt hlk hK hZ hW hS hl.1 htb exs1 fit1 wCL_X4_55 wIN_java_lang_IndexOutOfBoundsException vxA1 vxB1 vxO1 (by decide) dX4_point_34 dX4_point_37 dX4_point_38 dX4_point_40 dX4_point_43 (Nat.le_of_ble_eq_true rfl) (Nat.le_of_ble_eq_true rfl) (Nat.le_of_ble_eq_true rfl) (Nat.le_of_ble_eq_true rfl) rfl
    · rw [nz2, oc_s] at hF
      obtain ⟨hiz2, hF⟩ := grp hF
      refine lv_astore (lv' := [(6, .ref (h.2.2 10 iz2)), (5, .ref (h.2.2 6 iz1)), (0, .ref (h.2.2 0 0)), (1, .int a1), (2, .int a2), (3, .int a3), (4, .int a4)]) hx hb dX4_point_22 hl (by decide) rfl (fun ls hl => ?_)
      refine lv_aload hx hb dX4_point_24 (lv_at hl 1 rfl) ?_
      refine lv_ifnull hx hb dX4_point_26 ?_
      refine lv_aload hx hb dX4_point_29 (lv_at hl 0 rfl) ?_
      refine lv_ifnonnull (tgt := 44) hx hb dX4_point_31 (by decide) ?_
      refine lv_aload hx hb dX4_point_44 (lv_at hl 1 rfl) ?_
      refine lv_iload_n hx hb dX4_point_46 rfl (lv_at hl 5 rfl) ?_
      obtain ⟨z3, hz3, hF⟩ := bnd hF
      refine inI (runV C0 hlo hK hZ hW hS (kX0_hasPlace l lo g h _ iz1 a3 hiz1 _ _ hz3) wCO_X0_hasPlace wML_X4_138 wIM_X0_hasPlace wSE_X0_X0_hasPlace wIN_X0 hdX0_hasPlace ⟨Nat.le_of_ble_eq_true rfl, Nat.le_of_ble_eq_true rfl⟩ (recvK hK hW (al6 6 hiz1 (by decide)) (ct6 iz1) rfl) rfl hl.1 rfl (Nat.le_of_ble_eq_true rfl) dX4_point_47 ⟨Nat.le_of_ble_eq_true rfl, Nat.le_of_ble_eq_true rfl⟩) hS (fun H locs hW hS => ?_)
      refine lv_if_ne (tgt := 63) hx hb dX4_point_50 (by decide) (fun c4 => ?_) (fun c4 => ?_)
      · rw [if_neg c4] at hF
        refine lv_iload hx hb dX4_point_63 (lv_at hl 6 rfl) ?_
        refine lv_iconst (v := (-1)) hx hb dX4_point_65 (by decide) ?_
        refine lv_bipush (v := 100) hx hb dX4_point_66 (by decide) ?_
        obtain ⟨z5, hz5, hF⟩ := bnd hF
        refine inI (runS C0 hlo hK hZ hW hS (kX4_isIn l lo g h _ a4 (-1) 100  _ _ hz5) wCO_X4_isIn wML_X4_28 wST_X4_isIn wIN_X4 hdsX4_isIn ⟨Nat.le_of_ble_eq_true rfl, Nat.le_of_ble_eq_true rfl⟩ rfl hl.1 rfl (Nat.le_of_ble_eq_true rfl) dX4_point_68 ⟨Nat.le_of_ble_eq_true rfl, Nat.le_of_ble_eq_true rfl⟩) hS (fun H locs hW hS => ?_)
        refine lv_if_ne (tgt := 84) hx hb dX4_point_71 (by decide) (fun c6 => ?_) (fun c6 => ?_)
        · rw [if_neg c6] at hF
          refine lv_aload hx hb dX4_point_84 (lv_at hl 0 rfl) ?_
          refine lv_iload_n hx hb dX4_point_86 rfl (lv_at hl 5 rfl) ?_
          obtain ⟨z7, hz7, hF⟩ := bnd hF
          refine inI (runV C0 hlo hK hZ hW hS (kX1_hasPoint l lo g h _ iz2 a3 hiz2 _ _ hz7) wCO_X1_hasPoint wML_X4_181 wIM_X1_hasPoint wSE_X1_X1_hasPoint wIN_X1 hdX1_hasPoint ⟨Nat.le_of_ble_eq_true rfl, Nat.le_of_ble_eq_true rfl⟩ (recvK hK hW (al10 10 hiz2 (by decide)) (ct10 iz2) rfl) rfl hl.1 rfl (Nat.le_of_ble_eq_true rfl) dX4_point_87 ⟨Nat.le_of_ble_eq_true rfl, Nat.le_of_ble_eq_true rfl⟩) hS (fun H locs hW hS => ?_)
          refine lv_istore (lv' := [(7, .int z7.1), (6, .ref (h.2.2 10 iz2)), (5, .ref (h.2.2 6 iz1)), (0, .ref (h.2.2 0 0)), (1, .int a1), (2, .int a2), (3, .int a3), (4, .int a4)]) hx hb dX4_point_90 hl (by decide) rfl (fun ls hl => ?_)
          refine lv_iload hx hb dX4_point_92 (lv_at hl 7 rfl) ?_
          refine lv_iconst (v := (-1)) hx hb dX4_point_94 (by decide) ?_
          refine lv_icmp_ne (tgt := 113) hx hb dX4_point_95 (by decide) (fun c8 => ?_) (fun c8 => ?_)
          · rw [if_neg c8] at hF
            refine lv_iload hx hb dX4_point_113 (lv_at hl 0 rfl) ?_
            refine lv_if_ne (tgt := 138) hx hb dX4_point_115 (by decide) (fun c9 => ?_) (fun c9 => ?_)
            · rw [if_neg c9] at hF
              refine lv_iload hx hb dX4_point_138 (lv_at hl 7 rfl) ?_
              refine lv_iconst (v := (-1)) hx hb dX4_point_140 (by decide) ?_
              refine lv_icmp_ne (tgt := 158) hx hb dX4_point_141 (by decide) (fun c10 => ?_) (fun c10 => ?_)
              · rw [if_neg c10] at hF
                refine lv_aload hx hb dX4_point_158 (lv_at hl 1 rfl) ?_
                refine lv_iload_n hx hb dX4_point_160 rfl (lv_at hl 6 rfl) ?_
                refine lv_iload hx hb dX4_point_161 (lv_at hl 7 rfl) ?_
                refine lv_aload hx hb dX4_point_163 (lv_at hl 2 rfl) ?_
                refine get6 C0 hK hW iz1 (al6 6 hiz1 (by decide)) 2 (by decide) wFL_X4_193 rfl rfl dX4_point_165 ?_
                obtain ⟨z11, hz11, hF⟩ := bnd hF
                refine inV (runV C0 hlo hK hZ hW hS (kX1_layPoint l lo g h _ iz2 a3 a4 (z7.2.1 6 iz1 2) hiz2 _ hz11) wCO_X1_layPoint wML_X4_199 wIM_X1_layPoint wSE_X1_X1_layPoint wIN_X1 hdX1_layPoint ⟨Nat.le_of_ble_eq_true rfl, Nat.le_of_ble_eq_true rfl⟩ (recvK hK hW (al10 10 hiz2 (by decide)) (ct10 iz2) rfl) rfl hl.1 rfl (Nat.le_of_ble_eq_true rfl) dX4_point_168 ⟨Nat.le_of_ble_eq_true rfl, Nat.le_of_ble_eq_true rfl⟩) hS (fun H locs hW hS => ?_)
                refine lv_aload hx hb dX4_point_171 (lv_at hl 1 rfl) ?_
                refine get10 C0 hK hW iz2 (al10 10 hiz2 (by decide)) 2 (by decide) wFL_X4_188 rfl rfl dX4_point_173 ?_
                cases hF
                refine W.widen (k := 1) (n := 6) (Nat.le_of_ble_eq_true rfl) (Nat.le_of_ble_eq_true rfl) ?_
                exact vx_ret (retX C0 hr hlk rfl hW hS dX4_point_176)
              · rw [if_pos c10] at hF
                refine lv_aload hx hb dX4_point_144 (lv_at hl 1 rfl) ?_
                refine lv_iload_n hx hb dX4_point_146 rfl (lv_at hl 6 rfl) ?_
                refine lv_aload hx hb dX4_point_147 (lv_at hl 2 rfl) ?_
                refine get6 C0 hK hW iz1 (al6 6 hiz1 (by decide)) 2 (by decide) wFL_X4_193 rfl rfl dX4_point_149 ?_
                obtain ⟨z12, hz12, hF⟩ := bnd hF
                refine inV (runV C0 hlo hK hZ hW hS (kX1_takePoint l lo g h _ iz2 a3 (z7.2.1 6 iz1 2) hiz2 _ hz12) wCO_X1_takePoint wML_X4_196 wIM_X1_takePoint wSE_X1_X1_takePoint wIN_X1 hdX1_takePoint ⟨Nat.le_of_ble_eq_true rfl, Nat.le_of_ble_eq_true rfl⟩ (recvK hK hW (al10 10 hiz2 (by decide)) (ct10 iz2) rfl) rfl hl.1 rfl (Nat.le_of_ble_eq_true rfl) dX4_point_152 ⟨Nat.le_of_ble_eq_true rfl, Nat.le_of_ble_eq_true rfl⟩) hS (fun H locs hW hS => ?_)
                refine lv_goto (tgt := 171) hx hb dX4_point_155 (by decide) ?_
                refine lv_aload hx hb dX4_point_171 (lv_at hl 1 rfl) ?_
                refine get10 C0 hK hW iz2 (al10 10 hiz2 (by decide)) 2 (by decide) wFL_X4_188 rfl rfl dX4_point_173 ?_
                cases hF
                refine W.widen (k := 1) (n := 6) (Nat.le_of_ble_eq_true rfl) (Nat.le_of_ble_eq_true rfl) ?_
                exact vx_ret (retX C0 hr hlk rfl hW hS dX4_point_176)
            · rw [if_pos c9] at hF
              refine lv_aload hx hb dX4_point_118 (lv_at hl 1 rfl) ?_
              refine get10 C0 hK hW iz2 (al10 10 hiz2 (by decide)) 2 (by decide) wFL_X4_188 rfl rfl dX4_point_120 ?_
              refine lv_bipush (v := 8) hx hb dX4_point_123 (by decide) ?_
              refine lv_icmp_lt (tgt := 138) hx hb dX4_point_125 (by decide) (fun c13 => ?_) (fun c13 => ?_)
              · rw [if_pos c13] at hF
                refine lv_iload hx hb dX4_point_138 (lv_at hl 7 rfl) ?_
                refine lv_iconst (v := (-1)) hx hb dX4_point_140 (by decide) ?_
                refine lv_icmp_ne (tgt := 158) hx hb dX4_point_141 (by decide) (fun c14 => ?_) (fun c14 => ?_)
                · rw [if_neg c14] at hF
                  refine lv_aload hx hb dX4_point_158 (lv_at hl 1 rfl) ?_
                  refine lv_iload_n hx hb dX4_point_160 rfl (lv_at hl 6 rfl) ?_
                  refine lv_iload hx hb dX4_point_161 (lv_at hl 7 rfl) ?_
                  refine lv_aload hx hb dX4_point_163 (lv_at hl 2 rfl) ?_
                  refine get6 C0 hK hW iz1 (al6 6 hiz1 (by decide)) 2 (by decide) wFL_X4_193 rfl rfl dX4_point_165 ?_
                  obtain ⟨z15, hz15, hF⟩ := bnd hF
                  refine inV (runV C0 hlo hK hZ hW hS (kX1_layPoint l lo g h _ iz2 a3 a4 (z7.2.1 6 iz1 2) hiz2 _ hz15) wCO_X1_layPoint wML_X4_199 wIM_X1_layPoint wSE_X1_X1_layPoint wIN_X1 hdX1_layPoint ⟨Nat.le_of_ble_eq_true rfl, Nat.le_of_ble_eq_true rfl⟩ (recvK hK hW (al10 10 hiz2 (by decide)) (ct10 iz2) rfl) rfl hl.1 rfl (Nat.le_of_ble_eq_true rfl) dX4_point_168 ⟨Nat.le_of_ble_eq_true rfl, Nat.le_of_ble_eq_true rfl⟩) hS (fun H locs hW hS => ?_)
                  refine lv_aload hx hb dX4_point_171 (lv_at hl 1 rfl) ?_
                  refine get10 C0 hK hW iz2 (al10 10 hiz2 (by decide)) 2 (by decide) wFL_X4_188 rfl rfl dX4_point_173 ?_
                  cases hF
                  refine W.widen (k := 1) (n := 6) (Nat.le_of_ble_eq_true rfl) (Nat.le_of_ble_eq_true rfl) ?_
                  exact vx_ret (retX C0 hr hlk rfl hW hS dX4_point_176)
                · rw [if_pos c14] at hF
                  refine lv_aload hx hb dX4_point_144 (lv_at hl 1 rfl) ?_
                  refine lv_iload_n hx hb dX4_point_146 rfl (lv_at hl 6 rfl) ?_
                  refine lv_aload hx hb dX4_point_147 (lv_at hl 2 rfl) ?_
                  refine get6 C0 hK hW iz1 (al6 6 hiz1 (by decide)) 2 (by decide) wFL_X4_193 rfl rfl dX4_point_149 ?_
                  obtain ⟨z16, hz16, hF⟩ := bnd hF
                  refine inV (runV C0 hlo hK hZ hW hS (kX1_takePoint l lo g h _ iz2 a3 (z7.2.1 6 iz1 2) hiz2 _ hz16) wCO_X1_takePoint wML_X4_196 wIM_X1_takePoint wSE_X1_X1_takePoint wIN_X1 hdX1_takePoint ⟨Nat.le_of_ble_eq_true rfl, Nat.le_of_ble_eq_true rfl⟩ (recvK hK hW (al10 10 hiz2 (by decide)) (ct10 iz2) rfl) rfl hl.1 rfl (Nat.le_of_ble_eq_true rfl) dX4_point_152 ⟨Nat.le_of_ble_eq_true rfl, Nat.le_of_ble_eq_true rfl⟩) hS (fun H locs hW hS => ?_)
                  refine lv_goto (tgt := 171) hx hb dX4_point_155 (by decide) ?_
                  refine lv_aload hx hb dX4_point_171 (lv_at hl 1 rfl) ?_
                  refine get10 C0 hK hW iz2 (al10 10 hiz2 (by decide)) 2 (by decide) wFL_X4_188 rfl rfl dX4_point_173 ?_
                  cases hF
                  refine W.widen (k := 1) (n := 6) (Nat.le_of_ble_eq_true rfl) (Nat.le_of_ble_eq_true rfl) ?_
                  exact vx_ret (retX C0 hr hlk rfl hW hS dX4_point_176)
              · rw [if_neg c13] at hF
                cases hF
                exact thrS (k := 3) (text := "the cam has 8 points") C0 hnt hlk hK hZ hW hS hl.1 htb exs3 fit3 wCL_X4_43 wIN_java_lang_IllegalStateException vxA3 vxB3 vxO3 (by decide) dX4_point_128 dX4_point_131 dX4_point_132 dX4_point_134 dX4_point_137 (Nat.le_of_ble_eq_true rfl) (Nat.le_of_ble_eq_true rfl) (Nat.le_of_ble_eq_true rfl) (Nat.le_of_ble_eq_true rfl) rfl
          · rw [if_pos c8] at hF
            refine lv_iload hx hb dX4_point_98 (lv_at hl 0 rfl) ?_
            refine lv_if_ne (tgt := 113) hx hb dX4_point_100 (by decide) (fun c17 => ?_) (fun c17 => ?_)
            · rw [if_neg c17] at hF
              refine lv_iload hx hb dX4_point_113 (lv_at hl 0 rfl) ?_
              refine lv_if_ne (tgt := 138) hx hb dX4_point_115 (by decide) (fun c18 => ?_) (fun c18 => ?_)
              · rw [if_neg c18] at hF
                refine lv_iload hx hb dX4_point_138 (lv_at hl 7 rfl) ?_
                refine lv_iconst (v := (-1)) hx hb dX4_point_140 (by decide) ?_
                refine lv_icmp_ne (tgt := 158) hx hb dX4_point_141 (by decide) (fun c19 => ?_) (fun c19 => ?_)
                · rw [if_neg c19] at hF
                  refine lv_aload hx hb dX4_point_158 (lv_at hl 1 rfl) ?_
                  refine lv_iload_n hx hb dX4_point_160 rfl (lv_at hl 6 rfl) ?_
                  refine lv_iload hx hb dX4_point_161 (lv_at hl 7 rfl) ?_
                  refine lv_aload hx hb dX4_point_163 (lv_at hl 2 rfl) ?_
                  refine get6 C0 hK hW iz1 (al6 6 hiz1 (by decide)) 2 (by decide) wFL_X4_193 rfl rfl dX4_point_165 ?_
                  obtain ⟨z20, hz20, hF⟩ := bnd hF
                  refine inV (runV C0 hlo hK hZ hW hS (kX1_layPoint l lo g h _ iz2 a3 a4 (z7.2.1 6 iz1 2) hiz2 _ hz20) wCO_X1_layPoint wML_X4_199 wIM_X1_layPoint wSE_X1_X1_layPoint wIN_X1 hdX1_layPoint ⟨Nat.le_of_ble_eq_true rfl, Nat.le_of_ble_eq_true rfl⟩ (recvK hK hW (al10 10 hiz2 (by decide)) (ct10 iz2) rfl) rfl hl.1 rfl (Nat.le_of_ble_eq_true rfl) dX4_point_168 ⟨Nat.le_of_ble_eq_true rfl, Nat.le_of_ble_eq_true rfl⟩) hS (fun H locs hW hS => ?_)
                  refine lv_aload hx hb dX4_point_171 (lv_at hl 1 rfl) ?_
                  refine get10 C0 hK hW iz2 (al10 10 hiz2 (by decide)) 2 (by decide) wFL_X4_188 rfl rfl dX4_point_173 ?_
                  cases hF
                  refine W.widen (k := 1) (n := 6) (Nat.le_of_ble_eq_true rfl) (Nat.le_of_ble_eq_true rfl) ?_
                  exact vx_ret (retX C0 hr hlk rfl hW hS dX4_point_176)
                · rw [if_pos c19] at hF
                  refine lv_aload hx hb dX4_point_144 (lv_at hl 1 rfl) ?_
                  refine lv_iload_n hx hb dX4_point_146 rfl (lv_at hl 6 rfl) ?_
                  refine lv_aload hx hb dX4_point_147 (lv_at hl 2 rfl) ?_
                  refine get6 C0 hK hW iz1 (al6 6 hiz1 (by decide)) 2 (by decide) wFL_X4_193 rfl rfl dX4_point_149 ?_
                  obtain ⟨z21, hz21, hF⟩ := bnd hF
                  refine inV (runV C0 hlo hK hZ hW hS (kX1_takePoint l lo g h _ iz2 a3 (z7.2.1 6 iz1 2) hiz2 _ hz21) wCO_X1_takePoint wML_X4_196 wIM_X1_takePoint wSE_X1_X1_takePoint wIN_X1 hdX1_takePoint ⟨Nat.le_of_ble_eq_true rfl, Nat.le_of_ble_eq_true rfl⟩ (recvK hK hW (al10 10 hiz2 (by decide)) (ct10 iz2) rfl) rfl hl.1 rfl (Nat.le_of_ble_eq_true rfl) dX4_point_152 ⟨Nat.le_of_ble_eq_true rfl, Nat.le_of_ble_eq_true rfl⟩) hS (fun H locs hW hS => ?_)
                  refine lv_goto (tgt := 171) hx hb dX4_point_155 (by decide) ?_
                  refine lv_aload hx hb dX4_point_171 (lv_at hl 1 rfl) ?_
                  refine get10 C0 hK hW iz2 (al10 10 hiz2 (by decide)) 2 (by decide) wFL_X4_188 rfl rfl dX4_point_173 ?_
                  cases hF
                  refine W.widen (k := 1) (n := 6) (Nat.le_of_ble_eq_true rfl) (Nat.le_of_ble_eq_true rfl) ?_
                  exact vx_ret (retX C0 hr hlk rfl hW hS dX4_point_176)
              · rw [if_pos c18] at hF
                refine lv_aload hx hb dX4_point_118 (lv_at hl 1 rfl) ?_
                refine get10 C0 hK hW iz2 (al10 10 hiz2 (by decide)) 2 (by decide) wFL_X4_188 rfl rfl dX4_point_120 ?_
                refine lv_bipush (v := 8) hx hb dX4_point_123 (by decide) ?_
                refine lv_icmp_lt (tgt := 138) hx hb dX4_point_125 (by decide) (fun c22 => ?_) (fun c22 => ?_)
                · rw [if_pos c22] at hF
                  refine lv_iload hx hb dX4_point_138 (lv_at hl 7 rfl) ?_
                  refine lv_iconst (v := (-1)) hx hb dX4_point_140 (by decide) ?_
                  refine lv_icmp_ne (tgt := 158) hx hb dX4_point_141 (by decide) (fun c23 => ?_) (fun c23 => ?_)
                  · rw [if_neg c23] at hF
                    refine lv_aload hx hb dX4_point_158 (lv_at hl 1 rfl) ?_
                    refine lv_iload_n hx hb dX4_point_160 rfl (lv_at hl 6 rfl) ?_
                    refine lv_iload hx hb dX4_point_161 (lv_at hl 7 rfl) ?_
                    refine lv_aload hx hb dX4_point_163 (lv_at hl 2 rfl) ?_
                    refine get6 C0 hK hW iz1 (al6 6 hiz1 (by decide)) 2 (by decide) wFL_X4_193 rfl rfl dX4_point_165 ?_
                    obtain ⟨z24, hz24, hF⟩ := bnd hF
                    refine inV (runV C0 hlo hK hZ hW hS (kX1_layPoint l lo g h _ iz2 a3 a4 (z7.2.1 6 iz1 2) hiz2 _ hz24) wCO_X1_layPoint wML_X4_199 wIM_X1_layPoint wSE_X1_X1_layPoint wIN_X1 hdX1_layPoint ⟨Nat.le_of_ble_eq_true rfl, Nat.le_of_ble_eq_true rfl⟩ (recvK hK hW (al10 10 hiz2 (by decide)) (ct10 iz2) rfl) rfl hl.1 rfl (Nat.le_of_ble_eq_true rfl) dX4_point_168 ⟨Nat.le_of_ble_eq_true rfl, Nat.le_of_ble_eq_true rfl⟩) hS (fun H locs hW hS => ?_)
                    refine lv_aload hx hb dX4_point_171 (lv_at hl 1 rfl) ?_
                    refine get10 C0 hK hW iz2 (al10 10 hiz2 (by decide)) 2 (by decide) wFL_X4_188 rfl rfl dX4_point_173 ?_
                    cases hF
                    refine W.widen (k := 1) (n := 6) (Nat.le_of_ble_eq_true rfl) (Nat.le_of_ble_eq_true rfl) ?_
                    exact vx_ret (retX C0 hr hlk rfl hW hS dX4_point_176)
                  · rw [if_pos c23] at hF
                    refine lv_aload hx hb dX4_point_144 (lv_at hl 1 rfl) ?_
                    refine lv_iload_n hx hb dX4_point_146 rfl (lv_at hl 6 rfl) ?_
                    refine lv_aload hx hb dX4_point_147 (lv_at hl 2 rfl) ?_
                    refine get6 C0 hK hW iz1 (al6 6 hiz1 (by decide)) 2 (by decide) wFL_X4_193 rfl rfl dX4_point_149 ?_
                    obtain ⟨z25, hz25, hF⟩ := bnd hF
                    refine inV (runV C0 hlo hK hZ hW hS (kX1_takePoint l lo g h _ iz2 a3 (z7.2.1 6 iz1 2) hiz2 _ hz25) wCO_X1_takePoint wML_X4_196 wIM_X1_takePoint wSE_X1_X1_takePoint wIN_X1 hdX1_takePoint ⟨Nat.le_of_ble_eq_true rfl, Nat.le_of_ble_eq_true rfl⟩ (recvK hK hW (al10 10 hiz2 (by decide)) (ct10 iz2) rfl) rfl hl.1 rfl (Nat.le_of_ble_eq_true rfl) dX4_point_152 ⟨Nat.le_of_ble_eq_true rfl, Nat.le_of_ble_eq_true rfl⟩) hS (fun H locs hW hS => ?_)
                    refine lv_goto (tgt := 171) hx hb dX4_point_155 (by decide) ?_
                    refine lv_aload hx hb dX4_point_171 (lv_at hl 1 rfl) ?_
                    refine get10 C0 hK hW iz2 (al10 10 hiz2 (by decide)) 2 (by decide) wFL_X4_188 rfl rfl dX4_point_173 ?_
                    cases hF
                    refine W.widen (k := 1) (n := 6) (Nat.le_of_ble_eq_true rfl) (Nat.le_of_ble_eq_true rfl) ?_
                    exact vx_ret (retX C0 hr hlk rfl hW hS dX4_point_176)
                · rw [if_neg c22] at hF
                  cases hF
                  exact thrS (k := 3) (text := "the cam has 8 points") C0 hnt hlk hK hZ hW hS hl.1 htb exs3 fit3 wCL_X4_43 wIN_java_lang_IllegalStateException vxA3 vxB3 vxO3 (by decide) dX4_point_128 dX4_point_131 dX4_point_132 dX4_point_134 dX4_point_137 (Nat.le_of_ble_eq_true rfl) (Nat.le_of_ble_eq_true rfl) (Nat.le_of_ble_eq_true rfl) (Nat.le_of_ble_eq_true rfl) rfl
            · rw [if_pos c17] at hF
              cases hF
              exact thrS (k := 3) (text := "there is no point to take away") C0 hnt hlk hK hZ hW hS hl.1 htb exs3 fit3 wCL_X4_43 wIN_java_lang_IllegalStateException vxA3 vxB3 vxO3 (by decide) dX4_point_103 dX4_point_106 dX4_point_107 dX4_point_109 dX4_point_112 (Nat.le_of_ble_eq_true rfl) (Nat.le_of_ble_eq_true rfl) (Nat.le_of_ble_eq_true rfl) (Nat.le_of_ble_eq_true rfl) rfl
        · rw [if_pos c6] at hF
          cases hF
          exact thrS (k := 2) (text := "lift is not -1 to 100") C0 hnt hlk hK hZ hW hS hl.1 htb exs2 fit2 wCL_X4_32 wIN_java_lang_IllegalArgumentException vxA2 vxB2 vxO2 (by decide) dX4_point_74 dX4_point_77 dX4_point_78 dX4_point_80 dX4_point_83 (Nat.le_of_ble_eq_true rfl) (Nat.le_of_ble_eq_true rfl) (Nat.le_of_ble_eq_true rfl) (Nat.le_of_ble_eq_true rfl) rfl
      · rw [if_pos c4] at hF
        cases hF
        exact thrS (k := 2) (text := "place is not on the barrel") C0 hnt hlk hK hZ hW hS hl.1 htb exs2 fit2 wCL_X4_32 wIN_java_lang_IllegalArgumentException vxA2 vxB2 vxO2 (by decide) dX4_point_53 dX4_point_56 dX4_point_57 dX4_point_59 dX4_point_62 (Nat.le_of_ble_eq_true rfl) (Nat.le_of_ble_eq_true rfl) (Nat.le_of_ble_eq_true rfl) (Nat.le_of_ble_eq_true rfl) rfl
theorem hdX4_bird : yX4_bird.cls = RX4 ∧ yX4_bird.cls ≠ "java/lang/invoke/MethodHandle" ∧ yX4_bird.cls ≠ "java/lang/invoke/VarHandle" ∧ (parseMethodDescriptor yX4_bird.desc).map (fun d => d.parameters.length) = some 2 := by decide +kernel
def FX4_bird (ns nb : Nat) (σ : Sg) (a1 : Int32) (a2 : Int32) : Option ((Nat ⊕ Int32) × Sg) :=
  (FX4_birdAt ns nb σ a1).bind fun z1 => oc z1.1 (some (.inl 1, z1.2)) (fun iz1 => if iz1 < nb then (if a2 = 0 then (some (.inr (z1.2.1 6 iz1 0), z1.2)) else (if a2 = 1 then (some (.inr (z1.2.1 6 iz1 1), z1.2)) else (if a2 = 2 then (some (.inr (z1.2.1 6 iz1 2), z1.2)) else (if a2 = 3 then (some (.inr (z1.2.1 6 iz1 3), z1.2)) else (if a2 = 4 then (some (.inr (z1.2.1 6 iz1 4), z1.2)) else (if a2 = 5 then ((FX0_placeNow ns nb z1.2 iz1).bind fun z7 => some (.inr z7.1, z7.2)) else (if a2 = 6 then (if (z1.2.1 6 iz1 9) = 0 then (some (.inr 0, z1.2)) else (some (.inr 1, z1.2))) else (if a2 = 7 then (some (.inr (z1.2.1 6 iz1 8), z1.2)) else (if a2 = 8 then (some (.inr ((z1.2.2 6 iz1 11).toInt32), z1.2)) else (if a2 = 9 then (some (.inr (z1.2.1 6 iz1 12), z1.2)) else (some (.inl 1, z1.2)))))))))))) else none)
set_option maxHeartbeats 4000000 in
set_option maxRecDepth 100000 in
theorem kX4_bird (l : Launch) (hnt : l.stackTraces = false) (lo : Nat) (g : Gx) (h : Sh) (σ : Sg) (a1 : Int32) (a2 : Int32)  (res : (Nat ⊕ Int32) × Sg) (hF : FX4_bird h.1 h.2.1 σ a1 a2 = some res) : MX l yX4_bird (ws_ yX4_bird cX4_bird 4 (some .int)) 6 130 1 6 lo g h [.ref (h.2.2 0 0), .int a1, .int a2] σ res := by
  refine ofX (own := RX4) (by decide +kernel) rfl (fun p e s m below meth c C0 hr hlk hlo hK hZ hW hS htb ls hl => ?_) (Nat.le_of_ble_eq_true rfl)
  have hx := C0.1
  have hb := C0.2.1
  have hl : lv_has ls 4 [(0, .ref (h.2.2 0 0)), (1, .int a1), (2, .int a2)] := hl
  unfold FX4_bird at hF
  refine lv_aload_n hx hb dX4_bird_0 rfl (lv_at hl 0 rfl) ?_
  refine lv_iload_n hx hb dX4_bird_1 rfl (lv_at hl 1 rfl) ?_
  obtain ⟨z1, hz1, hF⟩ := bnd hF
  refine inR (runV C0 hlo hK hZ hW hS (kX4_birdAt l lo g h _ a1  _ _ hz1) wCO_X4_birdAt wML_X4_122 wIM_X4_birdAt wSE_X4_X4_birdAt wIN_X4 hdX4_birdAt ⟨Nat.le_of_ble_eq_true rfl, Nat.le_of_ble_eq_true rfl⟩ (recvK hK hW (al0 h 0 (by decide)) (ct0 0) rfl) rfl hl.1 rfl (Nat.le_of_ble_eq_true rfl) dX4_bird_2 ⟨Nat.le_of_ble_eq_true rfl, Nat.le_of_ble_eq_true rfl⟩) hS (fun H locs hW hS => ?_)
  refine nspl (fun nz1 => ?_) (fun iz1 nz1 => ?_)
  · rw [nz1, oc_n] at hF
    refine lv_astore_nN (lv' := [(3, .null), (0, .ref (h.2.2 0 0)), (1, .int a1), (2, .int a2)]) hx hb dX4_bird_5 rfl hl (by decide) rfl (fun ls hl => ?_)
    refine lv_aload_nN hx hb dX4_bird_6 rfl (lv_at hl 0 rfl) ?_
    refine lv_ifnonnullN hx hb dX4_bird_7 ?_
    cases hF
    exact thrS (k := 1) (text := "no such bird") C0 hnt hlk hK hZ hW hS hl.1 htb exs1 fit1 wCL_X4_55 wIN_java_lang_IndexOutOfBoundsException vxA1 vxB1 vxO1 (by decide) dX4_bird_10 dX4_bird_13 dX4_bird_14 dX4_bird_16 dX4_bird_19 (Nat.le_of_ble_eq_true rfl) (Nat.le_of_ble_eq_true rfl) (Nat.le_of_ble_eq_true rfl) (Nat.le_of_ble_eq_true rfl) rfl
  · rw [nz1, oc_s] at hF
    obtain ⟨hiz1, hF⟩ := grp hF
    refine lv_astore_n (lv' := [(3, .ref (h.2.2 6 iz1)), (0, .ref (h.2.2 0 0)), (1, .int a1), (2, .int a2)]) hx hb dX4_bird_5 rfl hl (by decide) rfl (fun ls hl => ?_)
    refine lv_aload_n hx hb dX4_bird_6 rfl (lv_at hl 0 rfl) ?_
    refine lv_ifnonnull (tgt := 20) hx hb dX4_bird_7 (by decide) ?_
    refine lv_iload_n hx hb dX4_bird_20 rfl (lv_at hl 3 rfl) ?_
    by_cases c2 : a2 = 0
    · rw [if_pos c2] at hF
      refine lv_tableIn (tgt := 76) (off := 55) hx hb dX4_bird_21 (by rw [c2]; decide) (by rw [c2]; decide) (by rw [c2]; decide) (by decide) ?_
      refine lv_aload_n hx hb dX4_bird_76 rfl (lv_at hl 0 rfl) ?_
      refine get6 C0 hK hW iz1 (al6 6 hiz1 (by decide)) 0 (by decide) wFL_X4_131 rfl rfl dX4_bird_77 ?_
      cases hF
      refine W.widen (k := 1) (n := 6) (Nat.le_of_ble_eq_true rfl) (Nat.le_of_ble_eq_true rfl) ?_
      exact vx_ret (retX C0 hr hlk rfl hW hS dX4_bird_80)
    · rw [if_neg c2] at hF
      by_cases c3 : a2 = 1
      · rw [if_pos c3] at hF
        refine lv_tableIn (tgt := 81) (off := 60) hx hb dX4_bird_21 (by rw [c3]; decide) (by rw [c3]; decide) (by rw [c3]; decide) (by decide) ?_
        refine lv_aload_n hx hb dX4_bird_81 rfl (lv_at hl 0 rfl) ?_
        refine get6 C0 hK hW iz1 (al6 6 hiz1 (by decide)) 1 (by decide) wFL_X4_203 rfl rfl dX4_bird_82 ?_
        cases hF
        refine W.widen (k := 1) (n := 6) (Nat.le_of_ble_eq_true rfl) (Nat.le_of_ble_eq_true rfl) ?_
        exact vx_ret (retX C0 hr hlk rfl hW hS dX4_bird_85)
      · rw [if_neg c3] at hF
        by_cases c4 : a2 = 2
        · rw [if_pos c4] at hF
          refine lv_tableIn (tgt := 86) (off := 65) hx hb dX4_bird_21 (by rw [c4]; decide) (by rw [c4]; decide) (by rw [c4]; decide) (by decide) ?_
          refine lv_aload_n hx hb dX4_bird_86 rfl (lv_at hl 0 rfl) ?_
          refine get6 C0 hK hW iz1 (al6 6 hiz1 (by decide)) 2 (by decide) wFL_X4_193 rfl rfl dX4_bird_87 ?_
          cases hF
          refine W.widen (k := 1) (n := 6) (Nat.le_of_ble_eq_true rfl) (Nat.le_of_ble_eq_true rfl) ?_
          exact vx_ret (retX C0 hr hlk rfl hW hS dX4_bird_90)
        · rw [if_neg c4] at hF
          by_cases c5 : a2 = 3
          · rw [if_pos c5] at hF
            refine lv_tableIn (tgt := 91) (off := 70) hx hb dX4_bird_21 (by rw [c5]; decide) (by rw [c5]; decide) (by rw [c5]; decide) (by decide) ?_
            refine lv_aload_n hx hb dX4_bird_91 rfl (lv_at hl 0 rfl) ?_
            refine get6 C0 hK hW iz1 (al6 6 hiz1 (by decide)) 3 (by decide) wFL_X4_206 rfl rfl dX4_bird_92 ?_
            cases hF
            refine W.widen (k := 1) (n := 6) (Nat.le_of_ble_eq_true rfl) (Nat.le_of_ble_eq_true rfl) ?_
            exact vx_ret (retX C0 hr hlk rfl hW hS dX4_bird_95)
          · rw [if_neg c5] at hF
            by_cases c6 : a2 = 4
            · rw [if_pos c6] at hF
              refine lv_tableIn (tgt := 96) (off := 75) hx hb dX4_bird_21 (by rw [c6]; decide) (by rw [c6]; decide) (by rw [c6]; decide) (by decide) ?_
              refine lv_aload_n hx hb dX4_bird_96 rfl (lv_at hl 0 rfl) ?_
              refine get6 C0 hK hW iz1 (al6 6 hiz1 (by decide)) 4 (by decide) wFL_X4_209 rfl rfl dX4_bird_97 ?_
              cases hF
              refine W.widen (k := 1) (n := 6) (Nat.le_of_ble_eq_true rfl) (Nat.le_of_ble_eq_true rfl) ?_
              exact vx_ret (retX C0 hr hlk rfl hW hS dX4_bird_100)
            · rw [if_neg c6] at hF
              by_cases c8 : a2 = 5
              · rw [if_pos c8] at hF
                refine lv_tableIn (tgt := 101) (off := 80) hx hb dX4_bird_21 (by rw [c8]; decide) (by rw [c8]; decide) (by rw [c8]; decide) (by decide) ?_
                refine lv_aload_n hx hb dX4_bird_101 rfl (lv_at hl 0 rfl) ?_
                obtain ⟨z7, hz7, hF⟩ := bnd hF
                refine inI (runV C0 hlo hK hZ hW hS (kX0_placeNow l lo g h _ iz1 hiz1 _ _ hz7) wCO_X0_placeNow wML_X4_212 wIM_X0_placeNow wSE_X0_X0_placeNow wIN_X0 hdX0_placeNow ⟨Nat.le_of_ble_eq_true rfl, Nat.le_of_ble_eq_true rfl⟩ (recvK hK hW (al6 6 hiz1 (by decide)) (ct6 iz1) rfl) rfl hl.1 rfl (Nat.le_of_ble_eq_true rfl) dX4_bird_102 ⟨Nat.le_of_ble_eq_true rfl, Nat.le_of_ble_eq_true rfl⟩) hS (fun H locs hW hS => ?_)
                cases hF
                refine W.widen (k := 1) (n := 6) (Nat.le_of_ble_eq_true rfl) (Nat.le_of_ble_eq_true rfl) ?_
                exact vx_ret (retX C0 hr hlk rfl hW hS dX4_bird_105)
              · rw [if_neg c8] at hF
                by_cases c10 : a2 = 6
                · rw [if_pos c10] at hF
                  refine lv_tableIn (tgt := 106) (off := 85) hx hb dX4_bird_21 (by rw [c10]; decide) (by rw [c10]; decide) (by rw [c10]; decide) (by decide) ?_
                  refine lv_aload_n hx hb dX4_bird_106 rfl (lv_at hl 0 rfl) ?_
                  refine get6 C0 hK hW iz1 (al6 6 hiz1 (by decide)) 9 (by decide) wFL_X4_128 rfl rfl dX4_bird_107 ?_
                  refine lv_if_eq (tgt := 117) hx hb dX4_bird_110 (by decide) (fun c9 => ?_) (fun c9 => ?_)
                  · rw [if_pos c9] at hF
                    refine lv_iconst (v := 0) hx hb dX4_bird_117 (by decide) ?_
                    cases hF
                    refine W.widen (k := 1) (n := 6) (Nat.le_of_ble_eq_true rfl) (Nat.le_of_ble_eq_true rfl) ?_
                    exact vx_ret (retX C0 hr hlk rfl hW hS dX4_bird_118)
                  · rw [if_neg c9] at hF
                    refine lv_iconst (v := 1) hx hb dX4_bird_113 (by decide) ?_
                    refine lv_goto (tgt := 118) hx hb dX4_bird_114 (by decide) ?_
                    cases hF
                    refine W.widen (k := 1) (n := 6) (Nat.le_of_ble_eq_true rfl) (Nat.le_of_ble_eq_true rfl) ?_
                    exact vx_ret (retX C0 hr hlk rfl hW hS dX4_bird_118)
                · rw [if_neg c10] at hF
                  by_cases c11 : a2 = 7
                  · rw [if_pos c11] at hF
                    refine lv_tableIn (tgt := 119) (off := 98) hx hb dX4_bird_21 (by rw [c11]; decide) (by rw [c11]; decide) (by rw [c11]; decide) (by decide) ?_
                    refine lv_aload_n hx hb dX4_bird_119 rfl (lv_at hl 0 rfl) ?_
                    refine get6 C0 hK hW iz1 (al6 6 hiz1 (by decide)) 8 (by decide) wFL_X4_150 rfl rfl dX4_bird_120 ?_
                    cases hF
                    refine W.widen (k := 1) (n := 6) (Nat.le_of_ble_eq_true rfl) (Nat.le_of_ble_eq_true rfl) ?_
                    exact vx_ret (retX C0 hr hlk rfl hW hS dX4_bird_123)
                  · rw [if_neg c11] at hF
                    by_cases c12 : a2 = 8
                    · rw [if_pos c12] at hF
                      refine lv_tableIn (tgt := 124) (off := 103) hx hb dX4_bird_21 (by rw [c12]; decide) (by rw [c12]; decide) (by rw [c12]; decide) (by decide) ?_
                      refine lv_aload_n hx hb dX4_bird_124 rfl (lv_at hl 0 rfl) ?_
                      refine get6 C0 hK hW iz1 (al6 6 hiz1 (by decide)) 11 (by decide) wFL_X4_216 rfl rfl dX4_bird_125 ?_
                      refine lv_l2i hx hb dX4_bird_128 rfl ?_
                      cases hF
                      refine W.widen (k := 1) (n := 6) (Nat.le_of_ble_eq_true rfl) (Nat.le_of_ble_eq_true rfl) ?_
                      exact vx_ret (retX C0 hr hlk rfl hW hS dX4_bird_129)
                    · rw [if_neg c12] at hF
                      by_cases c13 : a2 = 9
                      · rw [if_pos c13] at hF
                        refine lv_tableIn (tgt := 130) (off := 109) hx hb dX4_bird_21 (by rw [c13]; decide) (by rw [c13]; decide) (by rw [c13]; decide) (by decide) ?_
                        refine lv_aload_n hx hb dX4_bird_130 rfl (lv_at hl 0 rfl) ?_
                        refine get6 C0 hK hW iz1 (al6 6 hiz1 (by decide)) 12 (by decide) wFL_X4_219 rfl rfl dX4_bird_131 ?_
                        cases hF
                        refine W.widen (k := 1) (n := 6) (Nat.le_of_ble_eq_true rfl) (Nat.le_of_ble_eq_true rfl) ?_
                        exact vx_ret (retX C0 hr hlk rfl hW hS dX4_bird_134)
                      · rw [if_neg c13] at hF
                        have t0 := lv_neT c2 (a := 0) (by decide)
                        have t1 := lv_neT c3 (a := 1) (by decide)
                        have t2 := lv_neT c4 (a := 2) (by decide)
                        have t3 := lv_neT c5 (a := 3) (by decide)
                        have t4 := lv_neT c6 (a := 4) (by decide)
                        have t5 := lv_neT c8 (a := 5) (by decide)
                        have t6 := lv_neT c10 (a := 6) (by decide)
                        have t7 := lv_neT c11 (a := 7) (by decide)
                        have t8 := lv_neT c12 (a := 8) (by decide)
                        have t9 := lv_neT c13 (a := 9) (by decide)
                        refine lv_tableOut (tgt := 135) hx hb dX4_bird_21 (by omega) (by decide) ?_
                        cases hF
                        exact thrS (k := 1) (text := "what is not 0 to 9") C0 hnt hlk hK hZ hW hS hl.1 htb exs1 fit1 wCL_X4_55 wIN_java_lang_IndexOutOfBoundsException vxA1 vxB1 vxO1 (by decide) dX4_bird_135 dX4_bird_138 dX4_bird_139 dX4_bird_141 dX4_bird_144 (Nat.le_of_ble_eq_true rfl) (Nat.le_of_ble_eq_true rfl) (Nat.le_of_ble_eq_true rfl) (Nat.le_of_ble_eq_true rfl) rfl
set_option maxHeartbeats 4000000 in
set_option maxRecDepth 100000 in
theorem nX4_bird (l : Launch) (lo : Nat) (g : Gx) (h : Sh) (σ : Sg) (a1 : Int32) (a2 : Int32)  (r : Int32) (σ1 : Sg) (hF : FX4_bird h.1 h.2.1 σ a1 a2 = some (.inr r, σ1)) : MI l yX4_bird (ws_ yX4_bird cX4_bird 4 (some .int)) 2 42 0 0 lo g h [.ref (h.2.2 0 0), .int a1, .int a2] σ r σ1 := by
  refine ofB (own := RX4) (by decide +kernel) rfl (fun p e s m below meth c C0 hr hlk hlo hK hZ hW hS ls hl => ?_) (Nat.le_of_ble_eq_true rfl)
  have hx := C0.1
  have hb := C0.2.1
  have hl : lv_has ls 4 [(0, .ref (h.2.2 0 0)), (1, .int a1), (2, .int a2)] := hl
  unfold FX4_bird at hF
  refine lv_aload_n hx hb dX4_bird_0 rfl (lv_at hl 0 rfl) ?_
  refine lv_iload_n hx hb dX4_bird_1 rfl (lv_at hl 1 rfl) ?_
  obtain ⟨z1, hz1, hF⟩ := bnd hF
  refine inR (runV C0 hlo hK hZ hW hS (kX4_birdAt l lo g h _ a1  _ _ hz1) wCO_X4_birdAt wML_X4_122 wIM_X4_birdAt wSE_X4_X4_birdAt wIN_X4 hdX4_birdAt ⟨Nat.le_of_ble_eq_true rfl, Nat.le_of_ble_eq_true rfl⟩ (recvK hK hW (al0 h 0 (by decide)) (ct0 0) rfl) rfl hl.1 rfl (Nat.le_of_ble_eq_true rfl) dX4_bird_2 ⟨Nat.le_of_ble_eq_true rfl, Nat.le_of_ble_eq_true rfl⟩) hS (fun H locs hW hS => ?_)
  refine nspl (fun nz1 => ?_) (fun iz1 nz1 => ?_)
  · rw [nz1, oc_n] at hF
    refine lv_astore_nN (lv' := [(3, .null), (0, .ref (h.2.2 0 0)), (1, .int a1), (2, .int a2)]) hx hb dX4_bird_5 rfl hl (by decide) rfl (fun ls hl => ?_)
    refine lv_aload_nN hx hb dX4_bird_6 rfl (lv_at hl 0 rfl) ?_
    refine lv_ifnonnullN hx hb dX4_bird_7 ?_
    cases hF
  · rw [nz1, oc_s] at hF
    obtain ⟨hiz1, hF⟩ := grp hF
    refine lv_astore_n (lv' := [(3, .ref (h.2.2 6 iz1)), (0, .ref (h.2.2 0 0)), (1, .int a1), (2, .int a2)]) hx hb dX4_bird_5 rfl hl (by decide) rfl (fun ls hl => ?_)
    refine lv_aload_n hx hb dX4_bird_6 rfl (lv_at hl 0 rfl) ?_
    refine lv_ifnonnull (tgt := 20) hx hb dX4_bird_7 (by decide) ?_
    refine lv_iload_n hx hb dX4_bird_20 rfl (lv_at hl 3 rfl) ?_
    by_cases c2 : a2 = 0
    · rw [if_pos c2] at hF
      refine lv_tableIn (tgt := 76) (off := 55) hx hb dX4_bird_21 (by rw [c2]; decide) (by rw [c2]; decide) (by rw [c2]; decide) (by decide) ?_
      refine lv_aload_n hx hb dX4_bird_76 rfl (lv_at hl 0 rfl) ?_
      refine get6 C0 hK hW iz1 (al6 6 hiz1 (by decide)) 0 (by decide) wFL_X4_131 rfl rfl dX4_bird_77 ?_
      cases hF
      exact retI C0 hr hlk hW hS dX4_bird_80
    · rw [if_neg c2] at hF
      by_cases c3 : a2 = 1
      · rw [if_pos c3] at hF
        refine lv_tableIn (tgt := 81) (off := 60) hx hb dX4_bird_21 (by rw [c3]; decide) (by rw [c3]; decide) (by rw [c3]; decide) (by decide) ?_
        refine lv_aload_n hx hb dX4_bird_81 rfl (lv_at hl 0 rfl) ?_
        refine get6 C0 hK hW iz1 (al6 6 hiz1 (by decide)) 1 (by decide) wFL_X4_203 rfl rfl dX4_bird_82 ?_
        cases hF
        exact retI C0 hr hlk hW hS dX4_bird_85
      · rw [if_neg c3] at hF
        by_cases c4 : a2 = 2
        · rw [if_pos c4] at hF
          refine lv_tableIn (tgt := 86) (off := 65) hx hb dX4_bird_21 (by rw [c4]; decide) (by rw [c4]; decide) (by rw [c4]; decide) (by decide) ?_
          refine lv_aload_n hx hb dX4_bird_86 rfl (lv_at hl 0 rfl) ?_
          refine get6 C0 hK hW iz1 (al6 6 hiz1 (by decide)) 2 (by decide) wFL_X4_193 rfl rfl dX4_bird_87 ?_
          cases hF
          exact retI C0 hr hlk hW hS dX4_bird_90
        · rw [if_neg c4] at hF
          by_cases c5 : a2 = 3
          · rw [if_pos c5] at hF
            refine lv_tableIn (tgt := 91) (off := 70) hx hb dX4_bird_21 (by rw [c5]; decide) (by rw [c5]; decide) (by rw [c5]; decide) (by decide) ?_
            refine lv_aload_n hx hb dX4_bird_91 rfl (lv_at hl 0 rfl) ?_
            refine get6 C0 hK hW iz1 (al6 6 hiz1 (by decide)) 3 (by decide) wFL_X4_206 rfl rfl dX4_bird_92 ?_
            cases hF
            exact retI C0 hr hlk hW hS dX4_bird_95
          · rw [if_neg c5] at hF
            by_cases c6 : a2 = 4
            · rw [if_pos c6] at hF
              refine lv_tableIn (tgt := 96) (off := 75) hx hb dX4_bird_21 (by rw [c6]; decide) (by rw [c6]; decide) (by rw [c6]; decide) (by decide) ?_
              refine lv_aload_n hx hb dX4_bird_96 rfl (lv_at hl 0 rfl) ?_
              refine get6 C0 hK hW iz1 (al6 6 hiz1 (by decide)) 4 (by decide) wFL_X4_209 rfl rfl dX4_bird_97 ?_
              cases hF
              exact retI C0 hr hlk hW hS dX4_bird_100
            · rw [if_neg c6] at hF
              by_cases c8 : a2 = 5
              · rw [if_pos c8] at hF
                refine lv_tableIn (tgt := 101) (off := 80) hx hb dX4_bird_21 (by rw [c8]; decide) (by rw [c8]; decide) (by rw [c8]; decide) (by decide) ?_
                refine lv_aload_n hx hb dX4_bird_101 rfl (lv_at hl 0 rfl) ?_
                obtain ⟨z7, hz7, hF⟩ := bnd hF
                refine inI (runV C0 hlo hK hZ hW hS (kX0_placeNow l lo g h _ iz1 hiz1 _ _ hz7) wCO_X0_placeNow wML_X4_212 wIM_X0_placeNow wSE_X0_X0_placeNow wIN_X0 hdX0_placeNow ⟨Nat.le_of_ble_eq_true rfl, Nat.le_of_ble_eq_true rfl⟩ (recvK hK hW (al6 6 hiz1 (by decide)) (ct6 iz1) rfl) rfl hl.1 rfl (Nat.le_of_ble_eq_true rfl) dX4_bird_102 ⟨Nat.le_of_ble_eq_true rfl, Nat.le_of_ble_eq_true rfl⟩) hS (fun H locs hW hS => ?_)
                cases hF
                exact retI C0 hr hlk hW hS dX4_bird_105
              · rw [if_neg c8] at hF
                by_cases c10 : a2 = 6
                · rw [if_pos c10] at hF
                  refine lv_tableIn (tgt := 106) (off := 85) hx hb dX4_bird_21 (by rw [c10]; decide) (by rw [c10]; decide) (by rw [c10]; decide) (by decide) ?_
                  refine lv_aload_n hx hb dX4_bird_106 rfl (lv_at hl 0 rfl) ?_
                  refine get6 C0 hK hW iz1 (al6 6 hiz1 (by decide)) 9 (by decide) wFL_X4_128 rfl rfl dX4_bird_107 ?_
                  refine lv_if_eq (tgt := 117) hx hb dX4_bird_110 (by decide) (fun c9 => ?_) (fun c9 => ?_)
                  · rw [if_pos c9] at hF
                    refine lv_iconst (v := 0) hx hb dX4_bird_117 (by decide) ?_
                    cases hF
                    exact retI C0 hr hlk hW hS dX4_bird_118
                  · rw [if_neg c9] at hF
                    refine lv_iconst (v := 1) hx hb dX4_bird_113 (by decide) ?_
                    refine lv_goto (tgt := 118) hx hb dX4_bird_114 (by decide) ?_
                    cases hF
                    exact retI C0 hr hlk hW hS dX4_bird_118
                · rw [if_neg c10] at hF
                  by_cases c11 : a2 = 7
                  · rw [if_pos c11] at hF
                    refine lv_tableIn (tgt := 119) (off := 98) hx hb dX4_bird_21 (by rw [c11]; decide) (by rw [c11]; decide) (by rw [c11]; decide) (by decide) ?_
                    refine lv_aload_n hx hb dX4_bird_119 rfl (lv_at hl 0 rfl) ?_
                    refine get6 C0 hK hW iz1 (al6 6 hiz1 (by decide)) 8 (by decide) wFL_X4_150 rfl rfl dX4_bird_120 ?_
                    cases hF
                    exact retI C0 hr hlk hW hS dX4_bird_123
                  · rw [if_neg c11] at hF
                    by_cases c12 : a2 = 8
                    · rw [if_pos c12] at hF
                      refine lv_tableIn (tgt := 124) (off := 103) hx hb dX4_bird_21 (by rw [c12]; decide) (by rw [c12]; decide) (by rw [c12]; decide) (by decide) ?_
                      refine lv_aload_n hx hb dX4_bird_124 rfl (lv_at hl 0 rfl) ?_
                      refine get6 C0 hK hW iz1 (al6 6 hiz1 (by decide)) 11 (by decide) wFL_X4_216 rfl rfl dX4_bird_125 ?_
                      refine lv_l2i hx hb dX4_bird_128 rfl ?_
                      cases hF
                      exact retI C0 hr hlk hW hS dX4_bird_129
                    · rw [if_neg c12] at hF
                      by_cases c13 : a2 = 9
                      · rw [if_pos c13] at hF
                        refine lv_tableIn (tgt := 130) (off := 109) hx hb dX4_bird_21 (by rw [c13]; decide) (by rw [c13]; decide) (by rw [c13]; decide) (by decide) ?_
                        refine lv_aload_n hx hb dX4_bird_130 rfl (lv_at hl 0 rfl) ?_
                        refine get6 C0 hK hW iz1 (al6 6 hiz1 (by decide)) 12 (by decide) wFL_X4_219 rfl rfl dX4_bird_131 ?_
                        cases hF
                        exact retI C0 hr hlk hW hS dX4_bird_134
                      · rw [if_neg c13] at hF
                        have t0 := lv_neT c2 (a := 0) (by decide)
                        have t1 := lv_neT c3 (a := 1) (by decide)
                        have t2 := lv_neT c4 (a := 2) (by decide)
                        have t3 := lv_neT c5 (a := 3) (by decide)
                        have t4 := lv_neT c6 (a := 4) (by decide)
                        have t5 := lv_neT c8 (a := 5) (by decide)
                        have t6 := lv_neT c10 (a := 6) (by decide)
                        have t7 := lv_neT c11 (a := 7) (by decide)
                        have t8 := lv_neT c12 (a := 8) (by decide)
                        have t9 := lv_neT c13 (a := 9) (by decide)
                        refine lv_tableOut (tgt := 135) hx hb dX4_bird_21 (by omega) (by decide) ?_
                        cases hF
theorem hdX4_lift : yX4_lift.cls = RX4 ∧ yX4_lift.cls ≠ "java/lang/invoke/MethodHandle" ∧ yX4_lift.cls ≠ "java/lang/invoke/VarHandle" ∧ (parseMethodDescriptor yX4_lift.desc).map (fun d => d.parameters.length) = some 3 := by decide +kernel
def FX4_lift (ns nb : Nat) (σ : Sg) (a1 : Int32) (a2 : Int32) (a3 : Int32) : Option ((Nat ⊕ Int32) × Sg) :=
  (FX4_birdAt ns nb σ a1).bind fun z1 => oc z1.1 (some (.inl 1, z1.2)) (fun iz1 => if iz1 < nb then ((FX0_camAt ns nb z1.2 iz1 a2).bind fun z2 => oc z2.1 (some (.inl 1, z2.2)) (fun iz2 => if iz2 < 3 * nb then (if a3 = (-1) then (if a3 = (-1) then ((FX0_placeNow ns nb z2.2 iz1).bind fun z6 => (FX4_at ns nb z6.2 12 iz2 z6.1).bind fun z7 => some (.inr z7.1, z7.2)) else ((FX4_at ns nb z2.2 12 iz2 a3).bind fun z5 => some (.inr z5.1, z5.2))) else ((FX0_hasPlace ns nb z2.2 iz1 a3).bind fun z8 => if z8.1 = 0 then (some (.inl 2, z8.2)) else (if a3 = (-1) then ((FX0_placeNow ns nb z8.2 iz1).bind fun z12 => (FX4_at ns nb z12.2 12 iz2 z12.1).bind fun z13 => some (.inr z13.1, z13.2)) else ((FX4_at ns nb z8.2 12 iz2 a3).bind fun z11 => some (.inr z11.1, z11.2))))) else none)) else none)
set_option maxHeartbeats 4000000 in
set_option maxRecDepth 100000 in
theorem kX4_lift (l : Launch) (hnt : l.stackTraces = false) (lo : Nat) (g : Gx) (h : Sh) (σ : Sg) (a1 : Int32) (a2 : Int32) (a3 : Int32)  (res : (Nat ⊕ Int32) × Sg) (hF : FX4_lift h.1 h.2.1 σ a1 a2 a3 = some res) : MX l yX4_lift (ws_ yX4_lift cX4_lift 6 (some .int)) 6 130 1 6 lo g h [.ref (h.2.2 0 0), .int a1, .int a2, .int a3] σ res := by
  refine ofX (own := RX4) (by decide +kernel) rfl (fun p e s m below meth c C0 hr hlk hlo hK hZ hW hS htb ls hl => ?_) (Nat.le_of_ble_eq_true rfl)
  have hx := C0.1
  have hb := C0.2.1
  have hl : lv_has ls 6 [(0, .ref (h.2.2 0 0)), (1, .int a1), (2, .int a2), (3, .int a3)] := hl
  unfold FX4_lift at hF
  refine lv_aload_n hx hb dX4_lift_0 rfl (lv_at hl 0 rfl) ?_
  refine lv_iload_n hx hb dX4_lift_1 rfl (lv_at hl 1 rfl) ?_
  obtain ⟨z1, hz1, hF⟩ := bnd hF
  refine inR (runV C0 hlo hK hZ hW hS (kX4_birdAt l lo g h _ a1  _ _ hz1) wCO_X4_birdAt wML_X4_122 wIM_X4_birdAt wSE_X4_X4_birdAt wIN_X4 hdX4_birdAt ⟨Nat.le_of_ble_eq_true rfl, Nat.le_of_ble_eq_true rfl⟩ (recvK hK hW (al0 h 0 (by decide)) (ct0 0) rfl) rfl hl.1 rfl (Nat.le_of_ble_eq_true rfl) dX4_lift_2 ⟨Nat.le_of_ble_eq_true rfl, Nat.le_of_ble_eq_true rfl⟩) hS (fun H locs hW hS => ?_)
  refine nspl (fun nz1 => ?_) (fun iz1 nz1 => ?_)
  · rw [nz1, oc_n] at hF
    refine lv_astoreN (lv' := [(4, .null), (0, .ref (h.2.2 0 0)), (1, .int a1), (2, .int a2), (3, .int a3)]) hx hb dX4_lift_5 hl (by decide) rfl (fun ls hl => ?_)
    refine lv_aloadN hx hb dX4_lift_7 (lv_at hl 0 rfl) ?_
    refine lv_ifnonnullN hx hb dX4_lift_9 ?_
    refine lv_null hx hb dX4_lift_12 ?_
    refine lv_goto (tgt := 22) hx hb dX4_lift_13 (by decide) ?_
    refine lv_astoreN (lv' := [(5, .null), (4, .null), (0, .ref (h.2.2 0 0)), (1, .int a1), (2, .int a2), (3, .int a3)]) hx hb dX4_lift_22 hl (by decide) rfl (fun ls hl => ?_)
    refine lv_aloadN hx hb dX4_lift_24 (lv_at hl 1 rfl) ?_
    refine lv_ifnullN (tgt := 34) hx hb dX4_lift_26 (by decide) ?_
    cases hF
    exact thrS (k := 1) (text := "no such bird or cam") C0 hnt hlk hK hZ hW hS hl.1 htb exs1 fit1 wCL_X4_55 wIN_java_lang_IndexOutOfBoundsException vxA1 vxB1 vxO1 (by decide) dX4_lift_34 dX4_lift_37 dX4_lift_38 dX4_lift_40 dX4_lift_43 (Nat.le_of_ble_eq_true rfl) (Nat.le_of_ble_eq_true rfl) (Nat.le_of_ble_eq_true rfl) (Nat.le_of_ble_eq_true rfl) rfl
  · rw [nz1, oc_s] at hF
    obtain ⟨hiz1, hF⟩ := grp hF
    refine lv_astore (lv' := [(4, .ref (h.2.2 6 iz1)), (0, .ref (h.2.2 0 0)), (1, .int a1), (2, .int a2), (3, .int a3)]) hx hb dX4_lift_5 hl (by decide) rfl (fun ls hl => ?_)
    refine lv_aload hx hb dX4_lift_7 (lv_at hl 0 rfl) ?_
    refine lv_ifnonnull (tgt := 16) hx hb dX4_lift_9 (by decide) ?_
    refine lv_aload hx hb dX4_lift_16 (lv_at hl 0 rfl) ?_
    refine lv_iload_n hx hb dX4_lift_18 rfl (lv_at hl 3 rfl) ?_
    obtain ⟨z2, hz2, hF⟩ := bnd hF
    refine inR (runV C0 hlo hK hZ hW hS (kX0_camAt l lo g h _ iz1 a2 hiz1 _ _ hz2) wCO_X0_camAt wML_X4_173 wIM_X0_camAt wSE_X0_X0_camAt wIN_X0 hdX0_camAt ⟨Nat.le_of_ble_eq_true rfl, Nat.le_of_ble_eq_true rfl⟩ (recvK hK hW (al6 6 hiz1 (by decide)) (ct6 iz1) rfl) rfl hl.1 rfl (Nat.le_of_ble_eq_true rfl) dX4_lift_19 ⟨Nat.le_of_ble_eq_true rfl, Nat.le_of_ble_eq_true rfl⟩) hS (fun H locs hW hS => ?_)
    refine nspl (fun nz2 => ?_) (fun iz2 nz2 => ?_)
    · rw [nz2, oc_n] at hF
      refine lv_astoreN (lv' := [(5, .null), (4, .ref (h.2.2 6 iz1)), (0, .ref (h.2.2 0 0)), (1, .int a1), (2, .int a2), (3, .int a3)]) hx hb dX4_lift_22 hl (by decide) rfl (fun ls hl => ?_)
      refine lv_aload hx hb dX4_lift_24 (lv_at hl 1 rfl) ?_
      refine lv_ifnull hx hb dX4_lift_26 ?_
      refine lv_aloadN hx hb dX4_lift_29 (lv_at hl 0 rfl) ?_
      refine lv_ifnonnullN hx hb dX4_lift_31 ?_
      cases hF
      exact thrS (k := 1) (text := "no such bird or cam") C0 hnt hlk hK hZ hW hS hl.1 htb exs1 fit1 wCL_X4_55 wIN_java_lang_IndexOutOfBoundsException vxA1 vxB1 vxO1 (by decide) dX4_lift_34 dX4_lift_37 dX4_lift_38 dX4_lift_40 dX4_lift_43 (Nat.le_of_ble_eq_true rfl) (Nat.le_of_ble_eq_true rfl) (Nat.le_of_ble_eq_true rfl) (Nat.le_of_ble_eq_true rfl) rfl
    · rw [nz2, oc_s] at hF
      obtain ⟨hiz2, hF⟩ := grp hF
      refine lv_astore (lv' := [(5, .ref (h.2.2 10 iz2)), (4, .ref (h.2.2 6 iz1)), (0, .ref (h.2.2 0 0)), (1, .int a1), (2, .int a2), (3, .int a3)]) hx hb dX4_lift_22 hl (by decide) rfl (fun ls hl => ?_)
      refine lv_aload hx hb dX4_lift_24 (lv_at hl 1 rfl) ?_
      refine lv_ifnull hx hb dX4_lift_26 ?_
      refine lv_aload hx hb dX4_lift_29 (lv_at hl 0 rfl) ?_
      refine lv_ifnonnull (tgt := 44) hx hb dX4_lift_31 (by decide) ?_
      refine lv_iload_n hx hb dX4_lift_44 rfl (lv_at hl 5 rfl) ?_
      refine lv_iconst (v := (-1)) hx hb dX4_lift_45 (by decide) ?_
      refine lv_icmp_eq (tgt := 68) hx hb dX4_lift_46 (by decide) (fun c3 => ?_) (fun c3 => ?_)
      · rw [if_pos c3] at hF
        refine lv_aload hx hb dX4_lift_68 (lv_at hl 0 rfl) ?_
        refine get10 C0 hK hW iz2 (al10 10 hiz2 (by decide)) 1 (by decide) wFL_X4_226 rfl rfl dX4_lift_70 ?_
        refine lv_iload_n hx hb dX4_lift_73 rfl (lv_at hl 5 rfl) ?_
        refine lv_iconst (v := (-1)) hx hb dX4_lift_74 (by decide) ?_
        refine lv_icmp_ne (tgt := 86) hx hb dX4_lift_75 (by decide) (fun c4 => ?_) (fun c4 => ?_)
        · rw [if_neg c4] at hF
          refine lv_iload_n hx hb dX4_lift_86 rfl (lv_at hl 5 rfl) ?_
          obtain ⟨z5, hz5, hF⟩ := bnd hF
          refine inI (runS C0 hlo hK hZ hW hS (kX4_at l lo g h _ 12 iz2 a3 (al10 12 hiz2 (by decide)) (by decide) _ _ hz5) wCO_X4_at wML_X4_165 wST_X4_at wIN_X4 hdsX4_at ⟨Nat.le_of_ble_eq_true rfl, Nat.le_of_ble_eq_true rfl⟩ rfl hl.1 rfl (Nat.le_of_ble_eq_true rfl) dX4_lift_87 ⟨Nat.le_of_ble_eq_true rfl, Nat.le_of_ble_eq_true rfl⟩) hS (fun H locs hW hS => ?_)
          cases hF
          refine W.widen (k := 1) (n := 6) (Nat.le_of_ble_eq_true rfl) (Nat.le_of_ble_eq_true rfl) ?_
          exact vx_ret (retX C0 hr hlk rfl hW hS dX4_lift_90)
        · rw [if_pos c4] at hF
          refine lv_aload hx hb dX4_lift_78 (lv_at hl 1 rfl) ?_
          obtain ⟨z6, hz6, hF⟩ := bnd hF
          refine inI (runV C0 hlo hK hZ hW hS (kX0_placeNow l lo g h _ iz1 hiz1 _ _ hz6) wCO_X0_placeNow wML_X4_212 wIM_X0_placeNow wSE_X0_X0_placeNow wIN_X0 hdX0_placeNow ⟨Nat.le_of_ble_eq_true rfl, Nat.le_of_ble_eq_true rfl⟩ (recvK hK hW (al6 6 hiz1 (by decide)) (ct6 iz1) rfl) rfl hl.1 rfl (Nat.le_of_ble_eq_true rfl) dX4_lift_80 ⟨Nat.le_of_ble_eq_true rfl, Nat.le_of_ble_eq_true rfl⟩) hS (fun H locs hW hS => ?_)
          refine lv_goto (tgt := 87) hx hb dX4_lift_83 (by decide) ?_
          obtain ⟨z7, hz7, hF⟩ := bnd hF
          refine inI (runS C0 hlo hK hZ hW hS (kX4_at l lo g h _ 12 iz2 z6.1 (al10 12 hiz2 (by decide)) (by decide) _ _ hz7) wCO_X4_at wML_X4_165 wST_X4_at wIN_X4 hdsX4_at ⟨Nat.le_of_ble_eq_true rfl, Nat.le_of_ble_eq_true rfl⟩ rfl hl.1 rfl (Nat.le_of_ble_eq_true rfl) dX4_lift_87 ⟨Nat.le_of_ble_eq_true rfl, Nat.le_of_ble_eq_true rfl⟩) hS (fun H locs hW hS => ?_)
          cases hF
          refine W.widen (k := 1) (n := 6) (Nat.le_of_ble_eq_true rfl) (Nat.le_of_ble_eq_true rfl) ?_
          exact vx_ret (retX C0 hr hlk rfl hW hS dX4_lift_90)
      · rw [if_neg c3] at hF
        refine lv_aload hx hb dX4_lift_49 (lv_at hl 1 rfl) ?_
        refine lv_iload_n hx hb dX4_lift_51 rfl (lv_at hl 5 rfl) ?_
        obtain ⟨z8, hz8, hF⟩ := bnd hF
        refine inI (runV C0 hlo hK hZ hW hS (kX0_hasPlace l lo g h _ iz1 a3 hiz1 _ _ hz8) wCO_X0_hasPlace wML_X4_138 wIM_X0_hasPlace wSE_X0_X0_hasPlace wIN_X0 hdX0_hasPlace ⟨Nat.le_of_ble_eq_true rfl, Nat.le_of_ble_eq_true rfl⟩ (recvK hK hW (al6 6 hiz1 (by decide)) (ct6 iz1) rfl) rfl hl.1 rfl (Nat.le_of_ble_eq_true rfl) dX4_lift_52 ⟨Nat.le_of_ble_eq_true rfl, Nat.le_of_ble_eq_true rfl⟩) hS (fun H locs hW hS => ?_)
        refine lv_if_ne (tgt := 68) hx hb dX4_lift_55 (by decide) (fun c9 => ?_) (fun c9 => ?_)
        · rw [if_neg c9] at hF
          refine lv_aload hx hb dX4_lift_68 (lv_at hl 0 rfl) ?_
          refine get10 C0 hK hW iz2 (al10 10 hiz2 (by decide)) 1 (by decide) wFL_X4_226 rfl rfl dX4_lift_70 ?_
          refine lv_iload_n hx hb dX4_lift_73 rfl (lv_at hl 5 rfl) ?_
          refine lv_iconst (v := (-1)) hx hb dX4_lift_74 (by decide) ?_
          refine lv_icmp_ne (tgt := 86) hx hb dX4_lift_75 (by decide) (fun c10 => ?_) (fun c10 => ?_)
          · rw [if_neg c10] at hF
            refine lv_iload_n hx hb dX4_lift_86 rfl (lv_at hl 5 rfl) ?_
            obtain ⟨z11, hz11, hF⟩ := bnd hF
            refine inI (runS C0 hlo hK hZ hW hS (kX4_at l lo g h _ 12 iz2 a3 (al10 12 hiz2 (by decide)) (by decide) _ _ hz11) wCO_X4_at wML_X4_165 wST_X4_at wIN_X4 hdsX4_at ⟨Nat.le_of_ble_eq_true rfl, Nat.le_of_ble_eq_true rfl⟩ rfl hl.1 rfl (Nat.le_of_ble_eq_true rfl) dX4_lift_87 ⟨Nat.le_of_ble_eq_true rfl, Nat.le_of_ble_eq_true rfl⟩) hS (fun H locs hW hS => ?_)
            cases hF
            refine W.widen (k := 1) (n := 6) (Nat.le_of_ble_eq_true rfl) (Nat.le_of_ble_eq_true rfl) ?_
            exact vx_ret (retX C0 hr hlk rfl hW hS dX4_lift_90)
          · rw [if_pos c10] at hF
            refine lv_aload hx hb dX4_lift_78 (lv_at hl 1 rfl) ?_
            obtain ⟨z12, hz12, hF⟩ := bnd hF
            refine inI (runV C0 hlo hK hZ hW hS (kX0_placeNow l lo g h _ iz1 hiz1 _ _ hz12) wCO_X0_placeNow wML_X4_212 wIM_X0_placeNow wSE_X0_X0_placeNow wIN_X0 hdX0_placeNow ⟨Nat.le_of_ble_eq_true rfl, Nat.le_of_ble_eq_true rfl⟩ (recvK hK hW (al6 6 hiz1 (by decide)) (ct6 iz1) rfl) rfl hl.1 rfl (Nat.le_of_ble_eq_true rfl) dX4_lift_80 ⟨Nat.le_of_ble_eq_true rfl, Nat.le_of_ble_eq_true rfl⟩) hS (fun H locs hW hS => ?_)
            refine lv_goto (tgt := 87) hx hb dX4_lift_83 (by decide) ?_
            obtain ⟨z13, hz13, hF⟩ := bnd hF
            refine inI (runS C0 hlo hK hZ hW hS (kX4_at l lo g h _ 12 iz2 z12.1 (al10 12 hiz2 (by decide)) (by decide) _ _ hz13) wCO_X4_at wML_X4_165 wST_X4_at wIN_X4 hdsX4_at ⟨Nat.le_of_ble_eq_true rfl, Nat.le_of_ble_eq_true rfl⟩ rfl hl.1 rfl (Nat.le_of_ble_eq_true rfl) dX4_lift_87 ⟨Nat.le_of_ble_eq_true rfl, Nat.le_of_ble_eq_true rfl⟩) hS (fun H locs hW hS => ?_)
            cases hF
            refine W.widen (k := 1) (n := 6) (Nat.le_of_ble_eq_true rfl) (Nat.le_of_ble_eq_true rfl) ?_
            exact vx_ret (retX C0 hr hlk rfl hW hS dX4_lift_90)
        · rw [if_pos c9] at hF
          cases hF
          exact thrS (k := 2) (text := "place is neither -1 nor on the barrel") C0 hnt hlk hK hZ hW hS hl.1 htb exs2 fit2 wCL_X4_32 wIN_java_lang_IllegalArgumentException vxA2 vxB2 vxO2 (by decide) dX4_lift_58 dX4_lift_61 dX4_lift_62 dX4_lift_64 dX4_lift_67 (Nat.le_of_ble_eq_true rfl) (Nat.le_of_ble_eq_true rfl) (Nat.le_of_ble_eq_true rfl) (Nat.le_of_ble_eq_true rfl) rfl
set_option maxHeartbeats 4000000 in
set_option maxRecDepth 100000 in
theorem nX4_lift (l : Launch) (lo : Nat) (g : Gx) (h : Sh) (σ : Sg) (a1 : Int32) (a2 : Int32) (a3 : Int32)  (r : Int32) (σ1 : Sg) (hF : FX4_lift h.1 h.2.1 σ a1 a2 a3 = some (.inr r, σ1)) : MI l yX4_lift (ws_ yX4_lift cX4_lift 6 (some .int)) 2 43 0 0 lo g h [.ref (h.2.2 0 0), .int a1, .int a2, .int a3] σ r σ1 := by
  refine ofB (own := RX4) (by decide +kernel) rfl (fun p e s m below meth c C0 hr hlk hlo hK hZ hW hS ls hl => ?_) (Nat.le_of_ble_eq_true rfl)
  have hx := C0.1
  have hb := C0.2.1
  have hl : lv_has ls 6 [(0, .ref (h.2.2 0 0)), (1, .int a1), (2, .int a2), (3, .int a3)] := hl
  unfold FX4_lift at hF
  refine lv_aload_n hx hb dX4_lift_0 rfl (lv_at hl 0 rfl) ?_
  refine lv_iload_n hx hb dX4_lift_1 rfl (lv_at hl 1 rfl) ?_
  obtain ⟨z1, hz1, hF⟩ := bnd hF
  refine inR (runV C0 hlo hK hZ hW hS (kX4_birdAt l lo g h _ a1  _ _ hz1) wCO_X4_birdAt wML_X4_122 wIM_X4_birdAt wSE_X4_X4_birdAt wIN_X4 hdX4_birdAt ⟨Nat.le_of_ble_eq_true rfl, Nat.le_of_ble_eq_true rfl⟩ (recvK hK hW (al0 h 0 (by decide)) (ct0 0) rfl) rfl hl.1 rfl (Nat.le_of_ble_eq_true rfl) dX4_lift_2 ⟨Nat.le_of_ble_eq_true rfl, Nat.le_of_ble_eq_true rfl⟩) hS (fun H locs hW hS => ?_)
  refine nspl (fun nz1 => ?_) (fun iz1 nz1 => ?_)
  · rw [nz1, oc_n] at hF
    refine lv_astoreN (lv' := [(4, .null), (0, .ref (h.2.2 0 0)), (1, .int a1), (2, .int a2), (3, .int a3)]) hx hb dX4_lift_5 hl (by decide) rfl (fun ls hl => ?_)
    refine lv_aloadN hx hb dX4_lift_7 (lv_at hl 0 rfl) ?_
    refine lv_ifnonnullN hx hb dX4_lift_9 ?_
    refine lv_null hx hb dX4_lift_12 ?_
    refine lv_goto (tgt := 22) hx hb dX4_lift_13 (by decide) ?_
    refine lv_astoreN (lv' := [(5, .null), (4, .null), (0, .ref (h.2.2 0 0)), (1, .int a1), (2, .int a2), (3, .int a3)]) hx hb dX4_lift_22 hl (by decide) rfl (fun ls hl => ?_)
    refine lv_aloadN hx hb dX4_lift_24 (lv_at hl 1 rfl) ?_
    refine lv_ifnullN (tgt := 34) hx hb dX4_lift_26 (by decide) ?_
    cases hF
  · rw [nz1, oc_s] at hF
    obtain ⟨hiz1, hF⟩ := grp hF
    refine lv_astore (lv' := [(4, .ref (h.2.2 6 iz1)), (0, .ref (h.2.2 0 0)), (1, .int a1), (2, .int a2), (3, .int a3)]) hx hb dX4_lift_5 hl (by decide) rfl (fun ls hl => ?_)
    refine lv_aload hx hb dX4_lift_7 (lv_at hl 0 rfl) ?_
    refine lv_ifnonnull (tgt := 16) hx hb dX4_lift_9 (by decide) ?_
    refine lv_aload hx hb dX4_lift_16 (lv_at hl 0 rfl) ?_
    refine lv_iload_n hx hb dX4_lift_18 rfl (lv_at hl 3 rfl) ?_
    obtain ⟨z2, hz2, hF⟩ := bnd hF
    refine inR (runV C0 hlo hK hZ hW hS (kX0_camAt l lo g h _ iz1 a2 hiz1 _ _ hz2) wCO_X0_camAt wML_X4_173 wIM_X0_camAt wSE_X0_X0_camAt wIN_X0 hdX0_camAt ⟨Nat.le_of_ble_eq_true rfl, Nat.le_of_ble_eq_true rfl⟩ (recvK hK hW (al6 6 hiz1 (by decide)) (ct6 iz1) rfl) rfl hl.1 rfl (Nat.le_of_ble_eq_true rfl) dX4_lift_19 ⟨Nat.le_of_ble_eq_true rfl, Nat.le_of_ble_eq_true rfl⟩) hS (fun H locs hW hS => ?_)
    refine nspl (fun nz2 => ?_) (fun iz2 nz2 => ?_)
    · rw [nz2, oc_n] at hF
      refine lv_astoreN (lv' := [(5, .null), (4, .ref (h.2.2 6 iz1)), (0, .ref (h.2.2 0 0)), (1, .int a1), (2, .int a2), (3, .int a3)]) hx hb dX4_lift_22 hl (by decide) rfl (fun ls hl => ?_)
      refine lv_aload hx hb dX4_lift_24 (lv_at hl 1 rfl) ?_
      refine lv_ifnull hx hb dX4_lift_26 ?_
      refine lv_aloadN hx hb dX4_lift_29 (lv_at hl 0 rfl) ?_
      refine lv_ifnonnullN hx hb dX4_lift_31 ?_
      cases hF
    · rw [nz2, oc_s] at hF
      obtain ⟨hiz2, hF⟩ := grp hF
      refine lv_astore (lv' := [(5, .ref (h.2.2 10 iz2)), (4, .ref (h.2.2 6 iz1)), (0, .ref (h.2.2 0 0)), (1, .int a1), (2, .int a2), (3, .int a3)]) hx hb dX4_lift_22 hl (by decide) rfl (fun ls hl => ?_)
      refine lv_aload hx hb dX4_lift_24 (lv_at hl 1 rfl) ?_
      refine lv_ifnull hx hb dX4_lift_26 ?_
      refine lv_aload hx hb dX4_lift_29 (lv_at hl 0 rfl) ?_
      refine lv_ifnonnull (tgt := 44) hx hb dX4_lift_31 (by decide) ?_
      refine lv_iload_n hx hb dX4_lift_44 rfl (lv_at hl 5 rfl) ?_
      refine lv_iconst (v := (-1)) hx hb dX4_lift_45 (by decide) ?_
      refine lv_icmp_eq (tgt := 68) hx hb dX4_lift_46 (by decide) (fun c3 => ?_) (fun c3 => ?_)
      · rw [if_pos c3] at hF
        refine lv_aload hx hb dX4_lift_68 (lv_at hl 0 rfl) ?_
        refine get10 C0 hK hW iz2 (al10 10 hiz2 (by decide)) 1 (by decide) wFL_X4_226 rfl rfl dX4_lift_70 ?_
        refine lv_iload_n hx hb dX4_lift_73 rfl (lv_at hl 5 rfl) ?_
        refine lv_iconst (v := (-1)) hx hb dX4_lift_74 (by decide) ?_
        refine lv_icmp_ne (tgt := 86) hx hb dX4_lift_75 (by decide) (fun c4 => ?_) (fun c4 => ?_)
        · rw [if_neg c4] at hF
          refine lv_iload_n hx hb dX4_lift_86 rfl (lv_at hl 5 rfl) ?_
          obtain ⟨z5, hz5, hF⟩ := bnd hF
          refine inI (runS C0 hlo hK hZ hW hS (kX4_at l lo g h _ 12 iz2 a3 (al10 12 hiz2 (by decide)) (by decide) _ _ hz5) wCO_X4_at wML_X4_165 wST_X4_at wIN_X4 hdsX4_at ⟨Nat.le_of_ble_eq_true rfl, Nat.le_of_ble_eq_true rfl⟩ rfl hl.1 rfl (Nat.le_of_ble_eq_true rfl) dX4_lift_87 ⟨Nat.le_of_ble_eq_true rfl, Nat.le_of_ble_eq_true rfl⟩) hS (fun H locs hW hS => ?_)
          cases hF
          exact retI C0 hr hlk hW hS dX4_lift_90
        · rw [if_pos c4] at hF
          refine lv_aload hx hb dX4_lift_78 (lv_at hl 1 rfl) ?_
          obtain ⟨z6, hz6, hF⟩ := bnd hF
          refine inI (runV C0 hlo hK hZ hW hS (kX0_placeNow l lo g h _ iz1 hiz1 _ _ hz6) wCO_X0_placeNow wML_X4_212 wIM_X0_placeNow wSE_X0_X0_placeNow wIN_X0 hdX0_placeNow ⟨Nat.le_of_ble_eq_true rfl, Nat.le_of_ble_eq_true rfl⟩ (recvK hK hW (al6 6 hiz1 (by decide)) (ct6 iz1) rfl) rfl hl.1 rfl (Nat.le_of_ble_eq_true rfl) dX4_lift_80 ⟨Nat.le_of_ble_eq_true rfl, Nat.le_of_ble_eq_true rfl⟩) hS (fun H locs hW hS => ?_)
          refine lv_goto (tgt := 87) hx hb dX4_lift_83 (by decide) ?_
          obtain ⟨z7, hz7, hF⟩ := bnd hF
          refine inI (runS C0 hlo hK hZ hW hS (kX4_at l lo g h _ 12 iz2 z6.1 (al10 12 hiz2 (by decide)) (by decide) _ _ hz7) wCO_X4_at wML_X4_165 wST_X4_at wIN_X4 hdsX4_at ⟨Nat.le_of_ble_eq_true rfl, Nat.le_of_ble_eq_true rfl⟩ rfl hl.1 rfl (Nat.le_of_ble_eq_true rfl) dX4_lift_87 ⟨Nat.le_of_ble_eq_true rfl, Nat.le_of_ble_eq_true rfl⟩) hS (fun H locs hW hS => ?_)
          cases hF
          exact retI C0 hr hlk hW hS dX4_lift_90
      · rw [if_neg c3] at hF
        refine lv_aload hx hb dX4_lift_49 (lv_at hl 1 rfl) ?_
        refine lv_iload_n hx hb dX4_lift_51 rfl (lv_at hl 5 rfl) ?_
        obtain ⟨z8, hz8, hF⟩ := bnd hF
        refine inI (runV C0 hlo hK hZ hW hS (kX0_hasPlace l lo g h _ iz1 a3 hiz1 _ _ hz8) wCO_X0_hasPlace wML_X4_138 wIM_X0_hasPlace wSE_X0_X0_hasPlace wIN_X0 hdX0_hasPlace ⟨Nat.le_of_ble_eq_true rfl, Nat.le_of_ble_eq_true rfl⟩ (recvK hK hW (al6 6 hiz1 (by decide)) (ct6 iz1) rfl) rfl hl.1 rfl (Nat.le_of_ble_eq_true rfl) dX4_lift_52 ⟨Nat.le_of_ble_eq_true rfl, Nat.le_of_ble_eq_true rfl⟩) hS (fun H locs hW hS => ?_)
        refine lv_if_ne (tgt := 68) hx hb dX4_lift_55 (by decide) (fun c9 => ?_) (fun c9 => ?_)
        · rw [if_neg c9] at hF
          refine lv_aload hx hb dX4_lift_68 (lv_at hl 0 rfl) ?_
          refine get10 C0 hK hW iz2 (al10 10 hiz2 (by decide)) 1 (by decide) wFL_X4_226 rfl rfl dX4_lift_70 ?_
          refine lv_iload_n hx hb dX4_lift_73 rfl (lv_at hl 5 rfl) ?_
          refine lv_iconst (v := (-1)) hx hb dX4_lift_74 (by decide) ?_
          refine lv_icmp_ne (tgt := 86) hx hb dX4_lift_75 (by decide) (fun c10 => ?_) (fun c10 => ?_)
          · rw [if_neg c10] at hF
            refine lv_iload_n hx hb dX4_lift_86 rfl (lv_at hl 5 rfl) ?_
            obtain ⟨z11, hz11, hF⟩ := bnd hF
            refine inI (runS C0 hlo hK hZ hW hS (kX4_at l lo g h _ 12 iz2 a3 (al10 12 hiz2 (by decide)) (by decide) _ _ hz11) wCO_X4_at wML_X4_165 wST_X4_at wIN_X4 hdsX4_at ⟨Nat.le_of_ble_eq_true rfl, Nat.le_of_ble_eq_true rfl⟩ rfl hl.1 rfl (Nat.le_of_ble_eq_true rfl) dX4_lift_87 ⟨Nat.le_of_ble_eq_true rfl, Nat.le_of_ble_eq_true rfl⟩) hS (fun H locs hW hS => ?_)
            cases hF
            exact retI C0 hr hlk hW hS dX4_lift_90
          · rw [if_pos c10] at hF
            refine lv_aload hx hb dX4_lift_78 (lv_at hl 1 rfl) ?_
            obtain ⟨z12, hz12, hF⟩ := bnd hF
            refine inI (runV C0 hlo hK hZ hW hS (kX0_placeNow l lo g h _ iz1 hiz1 _ _ hz12) wCO_X0_placeNow wML_X4_212 wIM_X0_placeNow wSE_X0_X0_placeNow wIN_X0 hdX0_placeNow ⟨Nat.le_of_ble_eq_true rfl, Nat.le_of_ble_eq_true rfl⟩ (recvK hK hW (al6 6 hiz1 (by decide)) (ct6 iz1) rfl) rfl hl.1 rfl (Nat.le_of_ble_eq_true rfl) dX4_lift_80 ⟨Nat.le_of_ble_eq_true rfl, Nat.le_of_ble_eq_true rfl⟩) hS (fun H locs hW hS => ?_)
            refine lv_goto (tgt := 87) hx hb dX4_lift_83 (by decide) ?_
            obtain ⟨z13, hz13, hF⟩ := bnd hF
            refine inI (runS C0 hlo hK hZ hW hS (kX4_at l lo g h _ 12 iz2 z12.1 (al10 12 hiz2 (by decide)) (by decide) _ _ hz13) wCO_X4_at wML_X4_165 wST_X4_at wIN_X4 hdsX4_at ⟨Nat.le_of_ble_eq_true rfl, Nat.le_of_ble_eq_true rfl⟩ rfl hl.1 rfl (Nat.le_of_ble_eq_true rfl) dX4_lift_87 ⟨Nat.le_of_ble_eq_true rfl, Nat.le_of_ble_eq_true rfl⟩) hS (fun H locs hW hS => ?_)
            cases hF
            exact retI C0 hr hlk hW hS dX4_lift_90
        · rw [if_pos c9] at hF
          cases hF
theorem hdX4_run : yX4_run.cls = RX4 ∧ yX4_run.cls ≠ "java/lang/invoke/MethodHandle" ∧ yX4_run.cls ≠ "java/lang/invoke/VarHandle" ∧ (parseMethodDescriptor yX4_run.desc).map (fun d => d.parameters.length) = some 1 := by decide +kernel
def LX4_run_25 (ns nb : Nat) (v1 : Int32) : Nat → Int32 → Int32 → Sg → Option (Int32 × Sg)
  | 0, _, _, _ => none
  | n + 1, v2, v3, σ => if v1 ≤ v3 then (some (v2, σ)) else ((FX4_goOneTick ns nb σ ).bind fun z4 => LX4_run_25 ns nb v1 n (v2 + z4.1) (v3 + 1) z4.2)
def FX4_run (ns nb : Nat) (σ : Sg) (a1 : Int32) : Option ((Nat ⊕ Int32) × Sg) :=
  (FX4_isIn ns nb σ a1 1 500).bind fun z1 => if z1.1 = 0 then (some (.inl 2, z1.2)) else ((LX4_run_25 ns nb a1 4100 0 0 z1.2).bind fun z5 => some (.inr z5.1, z5.2))
set_option maxHeartbeats 4000000 in
set_option maxRecDepth 100000 in
theorem lX4_run_25 {p : Program} {l : Launch} {e : Env} {s : State} {m : MethodId} {args : Array Value} {below : List Frame} {meth : Method} {c : Code} {Q : State → Prop} {lo : Nat} {g : Gx} {h : Sh} (C0 : CallFix p m c cX4_run 4 s args wB RX4) (hlo : lo ≤ s.heap.size) (hK : KW g s) (hZ : ZW lo s s.heap) (v1 : Int32)  : ∀ (n : Nat) (v2 : Int32) (v3 : Int32) (σ : Sg) (z : (Int32 × Sg)) (hF : LX4_run_25 h.1 h.2.1 v1 n v2 v3 σ = some z) (H : Heap) (locs : List Loc) (ls : Array Slot) (hW : FW g h (Ax lo) σ H) (hS : va_S (Ax lo) s.heap H locs) (hl : lv_has ls 4 [(0, .ref (h.2.2 0 0)), (1, .int v1), (2, .int v2), (3, .int v3)]) (kk : ∀ (H : Heap) (locs : List Loc) (ls : Array Slot), FW g h (Ax lo) z.2 H → va_S (Ax lo) s.heap H locs → lv_has ls 4 [(2, .int z.1)] → W p l e { frames := 6, cells := 1, slots := 6, locals := 150 } s m args below meth c H locs 0 0 Q (F0 m 43 ls [])), W p l e { frames := 6, cells := 1, slots := 6, locals := 150 } s m args below meth c H locs 0 0 Q (F0 m 25 ls []) := by
  have hx := C0.1
  have hb := C0.2.1
  intro n
  induction n with
  | zero =>
    intro v2 v3 σ z hF
    rw [LX4_run_25] at hF
    cases hF
  | succ n ih =>
    intro v2 v3 σ z hF H locs ls hW hS hl kk
    rw [LX4_run_25] at hF
    refine lv_iload_n hx hb dX4_run_25 rfl (lv_at hl 3 rfl) ?_
    refine lv_iload_n hx hb dX4_run_26 rfl (lv_at hl 1 rfl) ?_
    refine lv_icmp_ge (tgt := 43) hx hb dX4_run_27 (by decide) (fun c3 => ?_) (fun c3 => ?_)
    · rw [if_pos c3] at hF
      cases hF
      exact kk _ _ _ hW hS (lv_sub hl [2] rfl)
    · rw [if_neg c3] at hF
      refine lv_iload_n hx hb dX4_run_30 rfl (lv_at hl 2 rfl) ?_
      refine lv_aload_n hx hb dX4_run_31 rfl (lv_at hl 0 rfl) ?_
      obtain ⟨z4, hz4, hF⟩ := bnd hF
      refine inI (runV C0 hlo hK hZ hW hS (kX4_goOneTick l lo g h _   _ _ hz4) wCO_X4_goOneTick wML_X4_231 wIM_X4_goOneTick wSE_X4_X4_goOneTick wIN_X4 hdX4_goOneTick ⟨Nat.le_of_ble_eq_true rfl, Nat.le_of_ble_eq_true rfl⟩ (recvK hK hW (al0 h 0 (by decide)) (ct0 0) rfl) rfl hl.1 rfl (Nat.le_of_ble_eq_true rfl) dX4_run_32 ⟨Nat.le_of_ble_eq_true rfl, Nat.le_of_ble_eq_true rfl⟩) hS (fun H locs hW hS => ?_)
      refine lv_iadd hx hb dX4_run_35 ?_
      refine lv_istore_n (lv' := [(2, .int (v2 + z4.1)), (0, .ref (h.2.2 0 0)), (1, .int v1), (3, .int v3)]) hx hb dX4_run_36 rfl hl (by decide) rfl (fun ls hl => ?_)
      refine lv_iinc (v := v3 + 1) (lv' := [(3, .int (v3 + 1)), (2, .int (v2 + z4.1)), (0, .ref (h.2.2 0 0)), (1, .int v1)]) hx hb dX4_run_37 hl (k := 3) rfl rfl (by decide) rfl (fun ls hl => ?_)
      refine lv_goto (tgt := 25) hx hb dX4_run_40 (by decide) ?_
      exact ih (v2 + z4.1) (v3 + 1) z4.2 z hF _ _ _ hW hS (lv_sub hl [2, 3, 1, 0] rfl) kk
set_option maxHeartbeats 4000000 in
set_option maxRecDepth 100000 in
theorem kX4_run (l : Launch) (hnt : l.stackTraces = false) (lo : Nat) (g : Gx) (h : Sh) (σ : Sg) (a1 : Int32)  (res : (Nat ⊕ Int32) × Sg) (hF : FX4_run h.1 h.2.1 σ a1 = some res) : MX l yX4_run (ws_ yX4_run cX4_run 4 (some .int)) 6 150 1 6 lo g h [.ref (h.2.2 0 0), .int a1] σ res := by
  refine ofX (own := RX4) (by decide +kernel) rfl (fun p e s m below meth c C0 hr hlk hlo hK hZ hW hS htb ls hl => ?_) (Nat.le_of_ble_eq_true rfl)
  have hx := C0.1
  have hb := C0.2.1
  have hl : lv_has ls 4 [(0, .ref (h.2.2 0 0)), (1, .int a1)] := hl
  unfold FX4_run at hF
  refine lv_iload_n hx hb dX4_run_0 rfl (lv_at hl 1 rfl) ?_
  refine lv_iconst (v := 1) hx hb dX4_run_1 (by decide) ?_
  refine lv_sipush (v := 500) hx hb dX4_run_2 (by decide) ?_
  obtain ⟨z1, hz1, hF⟩ := bnd hF
  refine inI (runS C0 hlo hK hZ hW hS (kX4_isIn l lo g h _ a1 1 500  _ _ hz1) wCO_X4_isIn wML_X4_28 wST_X4_isIn wIN_X4 hdsX4_isIn ⟨Nat.le_of_ble_eq_true rfl, Nat.le_of_ble_eq_true rfl⟩ rfl hl.1 rfl (Nat.le_of_ble_eq_true rfl) dX4_run_5 ⟨Nat.le_of_ble_eq_true rfl, Nat.le_of_ble_eq_true rfl⟩) hS (fun H locs hW hS => ?_)
  refine lv_if_ne (tgt := 21) hx hb dX4_run_8 (by decide) (fun c2 => ?_) (fun c2 => ?_)
  · rw [if_neg c2] at hF
    refine lv_iconst (v := 0) hx hb dX4_run_21 (by decide) ?_
    refine lv_istore_n (lv' := [(2, .int 0), (0, .ref (h.2.2 0 0)), (1, .int a1)]) hx hb dX4_run_22 rfl hl (by decide) rfl (fun ls hl => ?_)
    refine lv_iconst (v := 0) hx hb dX4_run_23 (by decide) ?_
    refine lv_istore_n (lv' := [(3, .int 0), (2, .int 0), (0, .ref (h.2.2 0 0)), (1, .int a1)]) hx hb dX4_run_24 rfl hl (by decide) rfl (fun ls hl => ?_)
    obtain ⟨z5, hz5, hF⟩ := bnd hF
    refine lX4_run_25 C0 hlo hK hZ a1  _ 0 0 _ z5 hz5 _ _ _ hW hS (lv_sub hl [2, 3, 1, 0] rfl) (fun H locs ls hW hS hl => ?_)
    refine lv_iload_n hx hb dX4_run_43 rfl (lv_at hl 0 rfl) ?_
    cases hF
    refine W.widen (k := 1) (n := 6) (Nat.le_of_ble_eq_true rfl) (Nat.le_of_ble_eq_true rfl) ?_
    exact vx_ret (retX C0 hr hlk rfl hW hS dX4_run_44)
  · rw [if_pos c2] at hF
    cases hF
    exact thrS (k := 2) (text := "ticks is not 1 to 500") C0 hnt hlk hK hZ hW hS hl.1 htb exs2 fit2 wCL_X4_32 wIN_java_lang_IllegalArgumentException vxA2 vxB2 vxO2 (by decide) dX4_run_11 dX4_run_14 dX4_run_15 dX4_run_17 dX4_run_20 (Nat.le_of_ble_eq_true rfl) (Nat.le_of_ble_eq_true rfl) (Nat.le_of_ble_eq_true rfl) (Nat.le_of_ble_eq_true rfl) rfl
theorem hdX4_count : yX4_count.cls = RX4 ∧ yX4_count.cls ≠ "java/lang/invoke/MethodHandle" ∧ yX4_count.cls ≠ "java/lang/invoke/VarHandle" ∧ (parseMethodDescriptor yX4_count.desc).map (fun d => d.parameters.length) = some 1 := by decide +kernel
def FX4_count (ns nb : Nat) (σ : Sg) (a1 : Int32) : Option ((Nat ⊕ Int32) × Sg) :=
  if a1 = 0 then (some (.inr (σ.1 0 0 6), σ)) else (if a1 = 1 then (some (.inr (σ.1 0 0 3), σ)) else (if a1 = 2 then (some (.inr (σ.1 0 0 4), σ)) else (if a1 = 3 then ((FJ6_bitCount_0f7a4 ns nb σ (σ.1 0 0 5)).bind fun z4 => some (.inr z4.1, z4.2)) else (if a1 = 4 then (some (.inr (σ.1 3 0 2), σ)) else (if a1 = 5 then ((FX4_heldByAll ns nb σ ).bind fun z7 => some (.inr z7.1, z7.2)) else (some (.inl 1, σ)))))))
set_option maxHeartbeats 4000000 in
set_option maxRecDepth 100000 in
theorem kX4_count (l : Launch) (hnt : l.stackTraces = false) (lo : Nat) (g : Gx) (h : Sh) (σ : Sg) (a1 : Int32)  (res : (Nat ⊕ Int32) × Sg) (hF : FX4_count h.1 h.2.1 σ a1 = some res) : MX l yX4_count (ws_ yX4_count cX4_count 2 (some .int)) 6 130 1 6 lo g h [.ref (h.2.2 0 0), .int a1] σ res := by
  refine ofX (own := RX4) (by decide +kernel) rfl (fun p e s m below meth c C0 hr hlk hlo hK hZ hW hS htb ls hl => ?_) (Nat.le_of_ble_eq_true rfl)
  have hx := C0.1
  have hb := C0.2.1
  have hl : lv_has ls 2 [(0, .ref (h.2.2 0 0)), (1, .int a1)] := hl
  unfold FX4_count at hF
  refine lv_iload_n hx hb dX4_count_0 rfl (lv_at hl 1 rfl) ?_
  by_cases c1 : a1 = 0
  · rw [if_pos c1] at hF
    refine lv_tableIn (tgt := 40) (off := 39) hx hb dX4_count_1 (by rw [c1]; decide) (by rw [c1]; decide) (by rw [c1]; decide) (by decide) ?_
    refine lv_aload_n hx hb dX4_count_40 rfl (lv_at hl 0 rfl) ?_
    refine get0 C0 hK hW 0 (al0 h 0 (by decide)) 6 (by decide) wFL_X4_234 rfl rfl dX4_count_41 ?_
    cases hF
    refine W.widen (k := 1) (n := 6) (Nat.le_of_ble_eq_true rfl) (Nat.le_of_ble_eq_true rfl) ?_
    exact vx_ret (retX C0 hr hlk rfl hW hS dX4_count_44)
  · rw [if_neg c1] at hF
    by_cases c2 : a1 = 1
    · rw [if_pos c2] at hF
      refine lv_tableIn (tgt := 45) (off := 44) hx hb dX4_count_1 (by rw [c2]; decide) (by rw [c2]; decide) (by rw [c2]; decide) (by decide) ?_
      refine lv_aload_n hx hb dX4_count_45 rfl (lv_at hl 0 rfl) ?_
      refine get0 C0 hK hW 0 (al0 h 0 (by decide)) 3 (by decide) wFL_X4_39 rfl rfl dX4_count_46 ?_
      cases hF
      refine W.widen (k := 1) (n := 6) (Nat.le_of_ble_eq_true rfl) (Nat.le_of_ble_eq_true rfl) ?_
      exact vx_ret (retX C0 hr hlk rfl hW hS dX4_count_49)
    · rw [if_neg c2] at hF
      by_cases c3 : a1 = 2
      · rw [if_pos c3] at hF
        refine lv_tableIn (tgt := 50) (off := 49) hx hb dX4_count_1 (by rw [c3]; decide) (by rw [c3]; decide) (by rw [c3]; decide) (by decide) ?_
        refine lv_aload_n hx hb dX4_count_50 rfl (lv_at hl 0 rfl) ?_
        refine get0 C0 hK hW 0 (al0 h 0 (by decide)) 4 (by decide) wFL_X4_114 rfl rfl dX4_count_51 ?_
        cases hF
        refine W.widen (k := 1) (n := 6) (Nat.le_of_ble_eq_true rfl) (Nat.le_of_ble_eq_true rfl) ?_
        exact vx_ret (retX C0 hr hlk rfl hW hS dX4_count_54)
      · rw [if_neg c3] at hF
        by_cases c5 : a1 = 3
        · rw [if_pos c5] at hF
          refine lv_tableIn (tgt := 55) (off := 54) hx hb dX4_count_1 (by rw [c5]; decide) (by rw [c5]; decide) (by rw [c5]; decide) (by decide) ?_
          refine lv_aload_n hx hb dX4_count_55 rfl (lv_at hl 0 rfl) ?_
          refine get0 C0 hK hW 0 (al0 h 0 (by decide)) 5 (by decide) wFL_X4_81 rfl rfl dX4_count_56 ?_
          obtain ⟨z4, hz4, hF⟩ := bnd hF
          refine inI (runS C0 hlo hK hZ hW hS (kJ6_bitCount_0f7a4 l lo g h _ (σ.1 0 0 5)  _ _ hz4) wCO_J6_bitCount_0f7a4 wML_X4_84 wST_J6_bitCount_0f7a4 wIN_J6 hdsJ6_bitCount_0f7a4 ⟨Nat.le_of_ble_eq_true rfl, Nat.le_of_ble_eq_true rfl⟩ rfl hl.1 rfl (Nat.le_of_ble_eq_true rfl) dX4_count_59 ⟨Nat.le_of_ble_eq_true rfl, Nat.le_of_ble_eq_true rfl⟩) hS (fun H locs hW hS => ?_)
          cases hF
          refine W.widen (k := 1) (n := 6) (Nat.le_of_ble_eq_true rfl) (Nat.le_of_ble_eq_true rfl) ?_
          exact vx_ret (retX C0 hr hlk rfl hW hS dX4_count_62)
        · rw [if_neg c5] at hF
          by_cases c6 : a1 = 4
          · rw [if_pos c6] at hF
            refine lv_tableIn (tgt := 63) (off := 62) hx hb dX4_count_1 (by rw [c6]; decide) (by rw [c6]; decide) (by rw [c6]; decide) (by decide) ?_
            refine lv_aload_n hx hb dX4_count_63 rfl (lv_at hl 0 rfl) ?_
            refine get0 C0 hK hW 0 (al0 h 0 (by decide)) 2 (by decide) wFL_X4_24 rfl rfl dX4_count_64 ?_
            refine get3 C0 hK hW 0 (al0 h 3 (by decide)) 2 (by decide) wFL_X4_237 rfl rfl dX4_count_67 ?_
            cases hF
            refine W.widen (k := 1) (n := 6) (Nat.le_of_ble_eq_true rfl) (Nat.le_of_ble_eq_true rfl) ?_
            exact vx_ret (retX C0 hr hlk rfl hW hS dX4_count_70)
          · rw [if_neg c6] at hF
            by_cases c8 : a1 = 5
            · rw [if_pos c8] at hF
              refine lv_tableIn (tgt := 71) (off := 70) hx hb dX4_count_1 (by rw [c8]; decide) (by rw [c8]; decide) (by rw [c8]; decide) (by decide) ?_
              refine lv_aload_n hx hb dX4_count_71 rfl (lv_at hl 0 rfl) ?_
              obtain ⟨z7, hz7, hF⟩ := bnd hF
              refine inI (runV C0 hlo hK hZ hW hS (kX4_heldByAll l lo g h _   _ _ hz7) wCO_X4_heldByAll wML_X4_240 wIM_X4_heldByAll wSE_X4_X4_heldByAll wIN_X4 hdX4_heldByAll ⟨Nat.le_of_ble_eq_true rfl, Nat.le_of_ble_eq_true rfl⟩ (recvK hK hW (al0 h 0 (by decide)) (ct0 0) rfl) rfl hl.1 rfl (Nat.le_of_ble_eq_true rfl) dX4_count_72 ⟨Nat.le_of_ble_eq_true rfl, Nat.le_of_ble_eq_true rfl⟩) hS (fun H locs hW hS => ?_)
              cases hF
              refine W.widen (k := 1) (n := 6) (Nat.le_of_ble_eq_true rfl) (Nat.le_of_ble_eq_true rfl) ?_
              exact vx_ret (retX C0 hr hlk rfl hW hS dX4_count_75)
            · rw [if_neg c8] at hF
              have t0 := lv_neT c1 (a := 0) (by decide)
              have t1 := lv_neT c2 (a := 1) (by decide)
              have t2 := lv_neT c3 (a := 2) (by decide)
              have t3 := lv_neT c5 (a := 3) (by decide)
              have t4 := lv_neT c6 (a := 4) (by decide)
              have t5 := lv_neT c8 (a := 5) (by decide)
              refine lv_tableOut (tgt := 76) hx hb dX4_count_1 (by omega) (by decide) ?_
              cases hF
              exact thrS (k := 1) (text := "what is not 0 to 5") C0 hnt hlk hK hZ hW hS hl.1 htb exs1 fit1 wCL_X4_55 wIN_java_lang_IndexOutOfBoundsException vxA1 vxB1 vxO1 (by decide) dX4_count_76 dX4_count_79 dX4_count_80 dX4_count_82 dX4_count_85 (Nat.le_of_ble_eq_true rfl) (Nat.le_of_ble_eq_true rfl) (Nat.le_of_ble_eq_true rfl) (Nat.le_of_ble_eq_true rfl) rfl
set_option maxHeartbeats 4000000 in
set_option maxRecDepth 100000 in
theorem nX4_count (l : Launch) (lo : Nat) (g : Gx) (h : Sh) (σ : Sg) (a1 : Int32)  (r : Int32) (σ1 : Sg) (hF : FX4_count h.1 h.2.1 σ a1 = some (.inr r, σ1)) : MI l yX4_count (ws_ yX4_count cX4_count 2 (some .int)) 1 25 0 0 lo g h [.ref (h.2.2 0 0), .int a1] σ r σ1 := by
  refine ofB (own := RX4) (by decide +kernel) rfl (fun p e s m below meth c C0 hr hlk hlo hK hZ hW hS ls hl => ?_) (Nat.le_of_ble_eq_true rfl)
  have hx := C0.1
  have hb := C0.2.1
  have hl : lv_has ls 2 [(0, .ref (h.2.2 0 0)), (1, .int a1)] := hl
  unfold FX4_count at hF
  refine lv_iload_n hx hb dX4_count_0 rfl (lv_at hl 1 rfl) ?_
  by_cases c1 : a1 = 0
  · rw [if_pos c1] at hF
    refine lv_tableIn (tgt := 40) (off := 39) hx hb dX4_count_1 (by rw [c1]; decide) (by rw [c1]; decide) (by rw [c1]; decide) (by decide) ?_
    refine lv_aload_n hx hb dX4_count_40 rfl (lv_at hl 0 rfl) ?_
    refine get0 C0 hK hW 0 (al0 h 0 (by decide)) 6 (by decide) wFL_X4_234 rfl rfl dX4_count_41 ?_
    cases hF
    exact retI C0 hr hlk hW hS dX4_count_44
  · rw [if_neg c1] at hF
    by_cases c2 : a1 = 1
    · rw [if_pos c2] at hF
      refine lv_tableIn (tgt := 45) (off := 44) hx hb dX4_count_1 (by rw [c2]; decide) (by rw [c2]; decide) (by rw [c2]; decide) (by decide) ?_
      refine lv_aload_n hx hb dX4_count_45 rfl (lv_at hl 0 rfl) ?_
      refine get0 C0 hK hW 0 (al0 h 0 (by decide)) 3 (by decide) wFL_X4_39 rfl rfl dX4_count_46 ?_
      cases hF
      exact retI C0 hr hlk hW hS dX4_count_49
    · rw [if_neg c2] at hF
      by_cases c3 : a1 = 2
      · rw [if_pos c3] at hF
        refine lv_tableIn (tgt := 50) (off := 49) hx hb dX4_count_1 (by rw [c3]; decide) (by rw [c3]; decide) (by rw [c3]; decide) (by decide) ?_
        refine lv_aload_n hx hb dX4_count_50 rfl (lv_at hl 0 rfl) ?_
        refine get0 C0 hK hW 0 (al0 h 0 (by decide)) 4 (by decide) wFL_X4_114 rfl rfl dX4_count_51 ?_
        cases hF
        exact retI C0 hr hlk hW hS dX4_count_54
      · rw [if_neg c3] at hF
        by_cases c5 : a1 = 3
        · rw [if_pos c5] at hF
          refine lv_tableIn (tgt := 55) (off := 54) hx hb dX4_count_1 (by rw [c5]; decide) (by rw [c5]; decide) (by rw [c5]; decide) (by decide) ?_
          refine lv_aload_n hx hb dX4_count_55 rfl (lv_at hl 0 rfl) ?_
          refine get0 C0 hK hW 0 (al0 h 0 (by decide)) 5 (by decide) wFL_X4_81 rfl rfl dX4_count_56 ?_
          obtain ⟨z4, hz4, hF⟩ := bnd hF
          refine inI (runS C0 hlo hK hZ hW hS (kJ6_bitCount_0f7a4 l lo g h _ (σ.1 0 0 5)  _ _ hz4) wCO_J6_bitCount_0f7a4 wML_X4_84 wST_J6_bitCount_0f7a4 wIN_J6 hdsJ6_bitCount_0f7a4 ⟨Nat.le_of_ble_eq_true rfl, Nat.le_of_ble_eq_true rfl⟩ rfl hl.1 rfl (Nat.le_of_ble_eq_true rfl) dX4_count_59 ⟨Nat.le_of_ble_eq_true rfl, Nat.le_of_ble_eq_true rfl⟩) hS (fun H locs hW hS => ?_)
          cases hF
          exact retI C0 hr hlk hW hS dX4_count_62
        · rw [if_neg c5] at hF
          by_cases c6 : a1 = 4
          · rw [if_pos c6] at hF
            refine lv_tableIn (tgt := 63) (off := 62) hx hb dX4_count_1 (by rw [c6]; decide) (by rw [c6]; decide) (by rw [c6]; decide) (by decide) ?_
            refine lv_aload_n hx hb dX4_count_63 rfl (lv_at hl 0 rfl) ?_
            refine get0 C0 hK hW 0 (al0 h 0 (by decide)) 2 (by decide) wFL_X4_24 rfl rfl dX4_count_64 ?_
            refine get3 C0 hK hW 0 (al0 h 3 (by decide)) 2 (by decide) wFL_X4_237 rfl rfl dX4_count_67 ?_
            cases hF
            exact retI C0 hr hlk hW hS dX4_count_70
          · rw [if_neg c6] at hF
            by_cases c8 : a1 = 5
            · rw [if_pos c8] at hF
              refine lv_tableIn (tgt := 71) (off := 70) hx hb dX4_count_1 (by rw [c8]; decide) (by rw [c8]; decide) (by rw [c8]; decide) (by decide) ?_
              refine lv_aload_n hx hb dX4_count_71 rfl (lv_at hl 0 rfl) ?_
              obtain ⟨z7, hz7, hF⟩ := bnd hF
              refine inI (runV C0 hlo hK hZ hW hS (kX4_heldByAll l lo g h _   _ _ hz7) wCO_X4_heldByAll wML_X4_240 wIM_X4_heldByAll wSE_X4_X4_heldByAll wIN_X4 hdX4_heldByAll ⟨Nat.le_of_ble_eq_true rfl, Nat.le_of_ble_eq_true rfl⟩ (recvK hK hW (al0 h 0 (by decide)) (ct0 0) rfl) rfl hl.1 rfl (Nat.le_of_ble_eq_true rfl) dX4_count_72 ⟨Nat.le_of_ble_eq_true rfl, Nat.le_of_ble_eq_true rfl⟩) hS (fun H locs hW hS => ?_)
              cases hF
              exact retI C0 hr hlk hW hS dX4_count_75
            · rw [if_neg c8] at hF
              have t0 := lv_neT c1 (a := 0) (by decide)
              have t1 := lv_neT c2 (a := 1) (by decide)
              have t2 := lv_neT c3 (a := 2) (by decide)
              have t3 := lv_neT c5 (a := 3) (by decide)
              have t4 := lv_neT c6 (a := 4) (by decide)
              have t5 := lv_neT c8 (a := 5) (by decide)
              refine lv_tableOut (tgt := 76) hx hb dX4_count_1 (by omega) (by decide) ?_
              cases hF
theorem hdX4_sung : yX4_sung.cls = RX4 ∧ yX4_sung.cls ≠ "java/lang/invoke/MethodHandle" ∧ yX4_sung.cls ≠ "java/lang/invoke/VarHandle" ∧ (parseMethodDescriptor yX4_sung.desc).map (fun d => d.parameters.length) = some 2 := by decide +kernel
def FX4_sung (ns nb : Nat) (σ : Sg) (a1 : Int32) (a2 : Int32) : Option ((Nat ⊕ Int32) × Sg) :=
  (FX4_isIn ns nb σ a1 0 ((σ.1 3 0 1) - 1)).bind fun z1 => if z1.1 = 0 then (some (.inl 1, z1.2)) else ((FX4_isIn ns nb z1.2 a2 0 3).bind fun z3 => if z3.1 = 0 then (some (.inl 1, z3.2)) else ((FX2_told ns nb z3.2 a1 a2).bind fun z5 => some (.inr z5.1, z5.2)))
set_option maxHeartbeats 4000000 in
set_option maxRecDepth 100000 in
theorem kX4_sung (l : Launch) (hnt : l.stackTraces = false) (lo : Nat) (g : Gx) (h : Sh) (σ : Sg) (a1 : Int32) (a2 : Int32)  (res : (Nat ⊕ Int32) × Sg) (hF : FX4_sung h.1 h.2.1 σ a1 a2 = some res) : MX l yX4_sung (ws_ yX4_sung cX4_sung 3 (some .int)) 6 130 1 6 lo g h [.ref (h.2.2 0 0), .int a1, .int a2] σ res := by
  refine ofX (own := RX4) (by decide +kernel) rfl (fun p e s m below meth c C0 hr hlk hlo hK hZ hW hS htb ls hl => ?_) (Nat.le_of_ble_eq_true rfl)
  have hx := C0.1
  have hb := C0.2.1
  have hl : lv_has ls 3 [(0, .ref (h.2.2 0 0)), (1, .int a1), (2, .int a2)] := hl
  unfold FX4_sung at hF
  refine lv_iload_n hx hb dX4_sung_0 rfl (lv_at hl 1 rfl) ?_
  refine lv_iconst (v := 0) hx hb dX4_sung_1 (by decide) ?_
  refine lv_aload_n hx hb dX4_sung_2 rfl (lv_at hl 0 rfl) ?_
  refine get0 C0 hK hW 0 (al0 h 0 (by decide)) 2 (by decide) wFL_X4_24 rfl rfl dX4_sung_3 ?_
  refine get3 C0 hK hW 0 (al0 h 3 (by decide)) 1 (by decide) wFL_X4_245 rfl rfl dX4_sung_6 ?_
  refine lv_iconst (v := 1) hx hb dX4_sung_9 (by decide) ?_
  refine lv_isub hx hb dX4_sung_10 ?_
  obtain ⟨z1, hz1, hF⟩ := bnd hF
  refine inI (runS C0 hlo hK hZ hW hS (kX4_isIn l lo g h _ a1 0 ((σ.1 3 0 1) - 1)  _ _ hz1) wCO_X4_isIn wML_X4_28 wST_X4_isIn wIN_X4 hdsX4_isIn ⟨Nat.le_of_ble_eq_true rfl, Nat.le_of_ble_eq_true rfl⟩ rfl hl.1 rfl (Nat.le_of_ble_eq_true rfl) dX4_sung_11 ⟨Nat.le_of_ble_eq_true rfl, Nat.le_of_ble_eq_true rfl⟩) hS (fun H locs hW hS => ?_)
  refine lv_if_ne (tgt := 27) hx hb dX4_sung_14 (by decide) (fun c2 => ?_) (fun c2 => ?_)
  · rw [if_neg c2] at hF
    refine lv_iload_n hx hb dX4_sung_27 rfl (lv_at hl 2 rfl) ?_
    refine lv_iconst (v := 0) hx hb dX4_sung_28 (by decide) ?_
    refine lv_iconst (v := 3) hx hb dX4_sung_29 (by decide) ?_
    obtain ⟨z3, hz3, hF⟩ := bnd hF
    refine inI (runS C0 hlo hK hZ hW hS (kX4_isIn l lo g h _ a2 0 3  _ _ hz3) wCO_X4_isIn wML_X4_28 wST_X4_isIn wIN_X4 hdsX4_isIn ⟨Nat.le_of_ble_eq_true rfl, Nat.le_of_ble_eq_true rfl⟩ rfl hl.1 rfl (Nat.le_of_ble_eq_true rfl) dX4_sung_30 ⟨Nat.le_of_ble_eq_true rfl, Nat.le_of_ble_eq_true rfl⟩) hS (fun H locs hW hS => ?_)
    refine lv_if_ne (tgt := 46) hx hb dX4_sung_33 (by decide) (fun c4 => ?_) (fun c4 => ?_)
    · rw [if_neg c4] at hF
      refine lv_aload_n hx hb dX4_sung_46 rfl (lv_at hl 0 rfl) ?_
      refine get0 C0 hK hW 0 (al0 h 0 (by decide)) 2 (by decide) wFL_X4_24 rfl rfl dX4_sung_47 ?_
      refine lv_iload_n hx hb dX4_sung_50 rfl (lv_at hl 1 rfl) ?_
      refine lv_iload_n hx hb dX4_sung_51 rfl (lv_at hl 2 rfl) ?_
      obtain ⟨z5, hz5, hF⟩ := bnd hF
      refine inI (runV C0 hlo hK hZ hW hS (kX2_told l lo g h _ a1 a2  _ _ hz5) wCO_X2_told wML_X4_252 wIM_X2_told wSE_X2_X2_told wIN_X2 hdX2_told ⟨Nat.le_of_ble_eq_true rfl, Nat.le_of_ble_eq_true rfl⟩ (recvK hK hW (al0 h 3 (by decide)) (ct3 0) rfl) rfl hl.1 rfl (Nat.le_of_ble_eq_true rfl) dX4_sung_52 ⟨Nat.le_of_ble_eq_true rfl, Nat.le_of_ble_eq_true rfl⟩) hS (fun H locs hW hS => ?_)
      cases hF
      refine W.widen (k := 1) (n := 6) (Nat.le_of_ble_eq_true rfl) (Nat.le_of_ble_eq_true rfl) ?_
      exact vx_ret (retX C0 hr hlk rfl hW hS dX4_sung_55)
    · rw [if_pos c4] at hF
      cases hF
      exact thrS (k := 1) (text := "what is not 0 to 3") C0 hnt hlk hK hZ hW hS hl.1 htb exs1 fit1 wCL_X4_55 wIN_java_lang_IndexOutOfBoundsException vxA1 vxB1 vxO1 (by decide) dX4_sung_36 dX4_sung_39 dX4_sung_40 dX4_sung_42 dX4_sung_45 (Nat.le_of_ble_eq_true rfl) (Nat.le_of_ble_eq_true rfl) (Nat.le_of_ble_eq_true rfl) (Nat.le_of_ble_eq_true rfl) rfl
  · rw [if_pos c2] at hF
    cases hF
    exact thrS (k := 1) (text := "no such note") C0 hnt hlk hK hZ hW hS hl.1 htb exs1 fit1 wCL_X4_55 wIN_java_lang_IndexOutOfBoundsException vxA1 vxB1 vxO1 (by decide) dX4_sung_17 dX4_sung_20 dX4_sung_21 dX4_sung_23 dX4_sung_26 (Nat.le_of_ble_eq_true rfl) (Nat.le_of_ble_eq_true rfl) (Nat.le_of_ble_eq_true rfl) (Nat.le_of_ble_eq_true rfl) rfl
set_option maxHeartbeats 4000000 in
set_option maxRecDepth 100000 in
theorem nX4_sung (l : Launch) (lo : Nat) (g : Gx) (h : Sh) (σ : Sg) (a1 : Int32) (a2 : Int32)  (r : Int32) (σ1 : Sg) (hF : FX4_sung h.1 h.2.1 σ a1 a2 = some (.inr r, σ1)) : MI l yX4_sung (ws_ yX4_sung cX4_sung 3 (some .int)) 2 43 0 0 lo g h [.ref (h.2.2 0 0), .int a1, .int a2] σ r σ1 := by
  refine ofB (own := RX4) (by decide +kernel) rfl (fun p e s m below meth c C0 hr hlk hlo hK hZ hW hS ls hl => ?_) (Nat.le_of_ble_eq_true rfl)
  have hx := C0.1
  have hb := C0.2.1
  have hl : lv_has ls 3 [(0, .ref (h.2.2 0 0)), (1, .int a1), (2, .int a2)] := hl
  unfold FX4_sung at hF
  refine lv_iload_n hx hb dX4_sung_0 rfl (lv_at hl 1 rfl) ?_
  refine lv_iconst (v := 0) hx hb dX4_sung_1 (by decide) ?_
  refine lv_aload_n hx hb dX4_sung_2 rfl (lv_at hl 0 rfl) ?_
  refine get0 C0 hK hW 0 (al0 h 0 (by decide)) 2 (by decide) wFL_X4_24 rfl rfl dX4_sung_3 ?_
  refine get3 C0 hK hW 0 (al0 h 3 (by decide)) 1 (by decide) wFL_X4_245 rfl rfl dX4_sung_6 ?_
  refine lv_iconst (v := 1) hx hb dX4_sung_9 (by decide) ?_
  refine lv_isub hx hb dX4_sung_10 ?_
  obtain ⟨z1, hz1, hF⟩ := bnd hF
  refine inI (runS C0 hlo hK hZ hW hS (kX4_isIn l lo g h _ a1 0 ((σ.1 3 0 1) - 1)  _ _ hz1) wCO_X4_isIn wML_X4_28 wST_X4_isIn wIN_X4 hdsX4_isIn ⟨Nat.le_of_ble_eq_true rfl, Nat.le_of_ble_eq_true rfl⟩ rfl hl.1 rfl (Nat.le_of_ble_eq_true rfl) dX4_sung_11 ⟨Nat.le_of_ble_eq_true rfl, Nat.le_of_ble_eq_true rfl⟩) hS (fun H locs hW hS => ?_)
  refine lv_if_ne (tgt := 27) hx hb dX4_sung_14 (by decide) (fun c2 => ?_) (fun c2 => ?_)
  · rw [if_neg c2] at hF
    refine lv_iload_n hx hb dX4_sung_27 rfl (lv_at hl 2 rfl) ?_
    refine lv_iconst (v := 0) hx hb dX4_sung_28 (by decide) ?_
    refine lv_iconst (v := 3) hx hb dX4_sung_29 (by decide) ?_
    obtain ⟨z3, hz3, hF⟩ := bnd hF
    refine inI (runS C0 hlo hK hZ hW hS (kX4_isIn l lo g h _ a2 0 3  _ _ hz3) wCO_X4_isIn wML_X4_28 wST_X4_isIn wIN_X4 hdsX4_isIn ⟨Nat.le_of_ble_eq_true rfl, Nat.le_of_ble_eq_true rfl⟩ rfl hl.1 rfl (Nat.le_of_ble_eq_true rfl) dX4_sung_30 ⟨Nat.le_of_ble_eq_true rfl, Nat.le_of_ble_eq_true rfl⟩) hS (fun H locs hW hS => ?_)
    refine lv_if_ne (tgt := 46) hx hb dX4_sung_33 (by decide) (fun c4 => ?_) (fun c4 => ?_)
    · rw [if_neg c4] at hF
      refine lv_aload_n hx hb dX4_sung_46 rfl (lv_at hl 0 rfl) ?_
      refine get0 C0 hK hW 0 (al0 h 0 (by decide)) 2 (by decide) wFL_X4_24 rfl rfl dX4_sung_47 ?_
      refine lv_iload_n hx hb dX4_sung_50 rfl (lv_at hl 1 rfl) ?_
      refine lv_iload_n hx hb dX4_sung_51 rfl (lv_at hl 2 rfl) ?_
      obtain ⟨z5, hz5, hF⟩ := bnd hF
      refine inI (runV C0 hlo hK hZ hW hS (kX2_told l lo g h _ a1 a2  _ _ hz5) wCO_X2_told wML_X4_252 wIM_X2_told wSE_X2_X2_told wIN_X2 hdX2_told ⟨Nat.le_of_ble_eq_true rfl, Nat.le_of_ble_eq_true rfl⟩ (recvK hK hW (al0 h 3 (by decide)) (ct3 0) rfl) rfl hl.1 rfl (Nat.le_of_ble_eq_true rfl) dX4_sung_52 ⟨Nat.le_of_ble_eq_true rfl, Nat.le_of_ble_eq_true rfl⟩) hS (fun H locs hW hS => ?_)
      cases hF
      exact retI C0 hr hlk hW hS dX4_sung_55
    · rw [if_pos c4] at hF
      cases hF
  · rw [if_pos c2] at hF
    cases hF
theorem hdX4_chord : yX4_chord.cls = RX4 ∧ yX4_chord.cls ≠ "java/lang/invoke/MethodHandle" ∧ yX4_chord.cls ≠ "java/lang/invoke/VarHandle" ∧ (parseMethodDescriptor yX4_chord.desc).map (fun d => d.parameters.length) = some 1 := by decide +kernel
def LX4_chord_22 (ns nb : Nat) (v1 : Int32) : Nat → Int64 → Int64 → Int32 → Sg → Option (Int64 × Int64 × Sg)
  | 0, _, _, _, _ => none
  | n + 1, v2, v4, v6, σ => if (σ.1 3 0 1) ≤ v6 then (some (v2, v4, σ)) else ((FX2_told ns nb σ v6 0).bind fun z3 => if z3.1 = v1 then ((FX2_told ns nb z3.2 v6 3).bind fun z5 => if 64 ≤ z5.1 then (LX4_chord_22 ns nb v1 n v2 (v4 ||| ((1 : Int64) <<< ((z5.1 - 64).toInt64 &&& 63))) (v6 + 1) z5.2) else (LX4_chord_22 ns nb v1 n (v2 ||| ((1 : Int64) <<< (z5.1.toInt64 &&& 63))) v4 (v6 + 1) z5.2)) else (LX4_chord_22 ns nb v1 n v2 v4 (v6 + 1) z3.2))
def FX4_chord (ns nb : Nat) (σ : Sg) (a1 : Int32) : Option ((Nat ⊕ Int32) × Sg) :=
  if 0 ≤ a1 then ((LX4_chord_22 ns nb a1 4100 0 0 0 σ).bind fun z7 => (FJ13_bitCount_95d88 ns nb z7.2.2 z7.1).bind fun z8 => (FJ13_bitCount_95d88 ns nb z8.2 z7.2.1).bind fun z9 => some (.inr (z8.1 + z9.1), z9.2)) else (some (.inl 2, σ))
set_option maxHeartbeats 4000000 in
set_option maxRecDepth 100000 in
theorem lX4_chord_22 {p : Program} {l : Launch} {e : Env} {s : State} {m : MethodId} {args : Array Value} {below : List Frame} {meth : Method} {c : Code} {Q : State → Prop} {lo : Nat} {g : Gx} {h : Sh} (C0 : CallFix p m c cX4_chord 8 s args wB RX4) (hlo : lo ≤ s.heap.size) (hK : KW g s) (hZ : ZW lo s s.heap) (v1 : Int32)  : ∀ (n : Nat) (v2 : Int64) (v4 : Int64) (v6 : Int32) (σ : Sg) (z : (Int64 × Int64 × Sg)) (hF : LX4_chord_22 h.1 h.2.1 v1 n v2 v4 v6 σ = some z) (H : Heap) (locs : List Loc) (ls : Array Slot) (hW : FW g h (Ax lo) σ H) (hS : va_S (Ax lo) s.heap H locs) (hl : lv_has ls 8 [(0, .ref (h.2.2 0 0)), (1, .int v1), (2, .long v2), (4, .long v4), (6, .int v6)]) (kk : ∀ (H : Heap) (locs : List Loc) (ls : Array Slot), FW g h (Ax lo) z.2.2 H → va_S (Ax lo) s.heap H locs → lv_has ls 8 [(2, .long z.1), (4, .long z.2.1)] → W p l e { frames := 6, cells := 1, slots := 6, locals := 130 } s m args below meth c H locs 0 0 Q (F0 m 95 ls [])), W p l e { frames := 6, cells := 1, slots := 6, locals := 130 } s m args below meth c H locs 0 0 Q (F0 m 22 ls []) := by
  have hx := C0.1
  have hb := C0.2.1
  intro n
  induction n with
  | zero =>
    intro v2 v4 v6 σ z hF
    rw [LX4_chord_22] at hF
    cases hF
  | succ n ih =>
    intro v2 v4 v6 σ z hF H locs ls hW hS hl kk
    rw [LX4_chord_22] at hF
    refine lv_iload hx hb dX4_chord_22 (lv_at hl 4 rfl) ?_
    refine lv_aload_n hx hb dX4_chord_24 rfl (lv_at hl 0 rfl) ?_
    refine get0 C0 hK hW 0 (al0 h 0 (by decide)) 2 (by decide) wFL_X4_24 rfl rfl dX4_chord_25 ?_
    refine get3 C0 hK hW 0 (al0 h 3 (by decide)) 1 (by decide) wFL_X4_245 rfl rfl dX4_chord_28 ?_
    refine lv_icmp_ge (tgt := 95) hx hb dX4_chord_31 (by decide) (fun c2 => ?_) (fun c2 => ?_)
    · rw [if_pos c2] at hF
      cases hF
      exact kk _ _ _ hW hS (lv_sub hl [2, 3] rfl)
    · rw [if_neg c2] at hF
      refine lv_aload_n hx hb dX4_chord_34 rfl (lv_at hl 0 rfl) ?_
      refine get0 C0 hK hW 0 (al0 h 0 (by decide)) 2 (by decide) wFL_X4_24 rfl rfl dX4_chord_35 ?_
      refine lv_iload hx hb dX4_chord_38 (lv_at hl 4 rfl) ?_
      refine lv_iconst (v := 0) hx hb dX4_chord_40 (by decide) ?_
      obtain ⟨z3, hz3, hF⟩ := bnd hF
      refine inI (runV C0 hlo hK hZ hW hS (kX2_told l lo g h _ v6 0  _ _ hz3) wCO_X2_told wML_X4_252 wIM_X2_told wSE_X2_X2_told wIN_X2 hdX2_told ⟨Nat.le_of_ble_eq_true rfl, Nat.le_of_ble_eq_true rfl⟩ (recvK hK hW (al0 h 3 (by decide)) (ct3 0) rfl) rfl hl.1 rfl (Nat.le_of_ble_eq_true rfl) dX4_chord_41 ⟨Nat.le_of_ble_eq_true rfl, Nat.le_of_ble_eq_true rfl⟩) hS (fun H locs hW hS => ?_)
      refine lv_iload_n hx hb dX4_chord_44 rfl (lv_at hl 1 rfl) ?_
      refine lv_icmp_ne (tgt := 89) hx hb dX4_chord_45 (by decide) (fun c4 => ?_) (fun c4 => ?_)
      · rw [if_neg c4] at hF
        refine lv_iinc (v := v6 + 1) (lv' := [(6, .int (v6 + 1)), (0, .ref (h.2.2 0 0)), (1, .int v1), (2, .long v2), (4, .long v4)]) hx hb dX4_chord_89 hl (k := 4) rfl rfl (by decide) rfl (fun ls hl => ?_)
        refine lv_goto (tgt := 22) hx hb dX4_chord_92 (by decide) ?_
        exact ih v2 v4 (v6 + 1) z3.2 z hF _ _ _ hW hS (lv_sub hl [1, 2, 3, 4, 0] rfl) kk
      · rw [if_pos c4] at hF
        refine lv_aload_n hx hb dX4_chord_48 rfl (lv_at hl 0 rfl) ?_
        refine get0 C0 hK hW 0 (al0 h 0 (by decide)) 2 (by decide) wFL_X4_24 rfl rfl dX4_chord_49 ?_
        refine lv_iload hx hb dX4_chord_52 (lv_at hl 4 rfl) ?_
        refine lv_iconst (v := 3) hx hb dX4_chord_54 (by decide) ?_
        obtain ⟨z5, hz5, hF⟩ := bnd hF
        refine inI (runV C0 hlo hK hZ hW hS (kX2_told l lo g h _ v6 3  _ _ hz5) wCO_X2_told wML_X4_252 wIM_X2_told wSE_X2_X2_told wIN_X2 hdX2_told ⟨Nat.le_of_ble_eq_true rfl, Nat.le_of_ble_eq_true rfl⟩ (recvK hK hW (al0 h 3 (by decide)) (ct3 0) rfl) rfl hl.1 rfl (Nat.le_of_ble_eq_true rfl) dX4_chord_55 ⟨Nat.le_of_ble_eq_true rfl, Nat.le_of_ble_eq_true rfl⟩) hS (fun H locs hW hS => ?_)
        refine lv_istore (lv' := [(7, .int z5.1), (0, .ref (h.2.2 0 0)), (1, .int v1), (2, .long v2), (4, .long v4), (6, .int v6)]) hx hb dX4_chord_58 hl (by decide) rfl (fun ls hl => ?_)
        refine lv_iload hx hb dX4_chord_60 (lv_at hl 0 rfl) ?_
        refine lv_bipush (v := 64) hx hb dX4_chord_62 (by decide) ?_
        refine lv_icmp_ge (tgt := 77) hx hb dX4_chord_64 (by decide) (fun c6 => ?_) (fun c6 => ?_)
        · rw [if_pos c6] at hF
          refine lv_lload hx hb dX4_chord_77 (lv_at hl 4 rfl) ?_
          refine lv_lconst (v := 1) hx hb dX4_chord_79 (by decide) ?_
          refine lv_iload hx hb dX4_chord_80 (lv_at hl 0 rfl) ?_
          refine lv_bipush (v := 64) hx hb dX4_chord_82 (by decide) ?_
          refine lv_isub hx hb dX4_chord_84 ?_
          refine lv_lshl hx hb dX4_chord_85 rfl ?_
          refine lv_lor hx hb dX4_chord_86 ?_
          refine lv_lstore (lv' := [(4, .long (v4 ||| ((1 : Int64) <<< ((z5.1 - 64).toInt64 &&& 63)))), (7, .int z5.1), (0, .ref (h.2.2 0 0)), (1, .int v1), (2, .long v2), (6, .int v6)]) hx hb dX4_chord_87 hl (by decide) rfl (fun ls hl => ?_)
          refine lv_iinc (v := v6 + 1) (lv' := [(6, .int (v6 + 1)), (4, .long (v4 ||| ((1 : Int64) <<< ((z5.1 - 64).toInt64 &&& 63)))), (7, .int z5.1), (0, .ref (h.2.2 0 0)), (1, .int v1), (2, .long v2)]) hx hb dX4_chord_89 hl (k := 5) rfl rfl (by decide) rfl (fun ls hl => ?_)
          refine lv_goto (tgt := 22) hx hb dX4_chord_92 (by decide) ?_
          exact ih v2 (v4 ||| ((1 : Int64) <<< ((z5.1 - 64).toInt64 &&& 63))) (v6 + 1) z5.2 z hF _ _ _ hW hS (lv_sub hl [3, 4, 5, 1, 0] rfl) kk
        · rw [if_neg c6] at hF
          refine lv_lload_n hx hb dX4_chord_67 rfl (lv_at hl 3 rfl) ?_
          refine lv_lconst (v := 1) hx hb dX4_chord_68 (by decide) ?_
          refine lv_iload hx hb dX4_chord_69 (lv_at hl 0 rfl) ?_
          refine lv_lshl hx hb dX4_chord_71 rfl ?_
          refine lv_lor hx hb dX4_chord_72 ?_
          refine lv_lstore_n (lv' := [(2, .long (v2 ||| ((1 : Int64) <<< (z5.1.toInt64 &&& 63)))), (7, .int z5.1), (0, .ref (h.2.2 0 0)), (1, .int v1), (4, .long v4), (6, .int v6)]) hx hb dX4_chord_73 rfl hl (by decide) rfl (fun ls hl => ?_)
          refine lv_goto (tgt := 89) hx hb dX4_chord_74 (by decide) ?_
          refine lv_iinc (v := v6 + 1) (lv' := [(6, .int (v6 + 1)), (2, .long (v2 ||| ((1 : Int64) <<< (z5.1.toInt64 &&& 63)))), (7, .int z5.1), (0, .ref (h.2.2 0 0)), (1, .int v1), (4, .long v4)]) hx hb dX4_chord_89 hl (k := 5) rfl rfl (by decide) rfl (fun ls hl => ?_)
          refine lv_goto (tgt := 22) hx hb dX4_chord_92 (by decide) ?_
          exact ih (v2 ||| ((1 : Int64) <<< (z5.1.toInt64 &&& 63))) v4 (v6 + 1) z5.2 z hF _ _ _ hW hS (lv_sub hl [3, 4, 1, 5, 0] rfl) kk
set_option maxHeartbeats 4000000 in
set_option maxRecDepth 100000 in
theorem kX4_chord (l : Launch) (hnt : l.stackTraces = false) (lo : Nat) (g : Gx) (h : Sh) (σ : Sg) (a1 : Int32)  (res : (Nat ⊕ Int32) × Sg) (hF : FX4_chord h.1 h.2.1 σ a1 = some res) : MX l yX4_chord (ws_ yX4_chord cX4_chord 8 (some .int)) 6 130 1 6 lo g h [.ref (h.2.2 0 0), .int a1] σ res := by
  refine ofX (own := RX4) (by decide +kernel) rfl (fun p e s m below meth c C0 hr hlk hlo hK hZ hW hS htb ls hl => ?_) (Nat.le_of_ble_eq_true rfl)
  have hx := C0.1
  have hb := C0.2.1
  have hl : lv_has ls 8 [(0, .ref (h.2.2 0 0)), (1, .int a1)] := hl
  unfold FX4_chord at hF
  refine lv_iload_n hx hb dX4_chord_0 rfl (lv_at hl 1 rfl) ?_
  refine lv_if_ge (tgt := 14) hx hb dX4_chord_1 (by decide) (fun c1 => ?_) (fun c1 => ?_)
  · rw [if_pos c1] at hF
    refine lv_lconst (v := 0) hx hb dX4_chord_14 (by decide) ?_
    refine lv_lstore_n (lv' := [(2, .long 0), (0, .ref (h.2.2 0 0)), (1, .int a1)]) hx hb dX4_chord_15 rfl hl (by decide) rfl (fun ls hl => ?_)
    refine lv_lconst (v := 0) hx hb dX4_chord_16 (by decide) ?_
    refine lv_lstore (lv' := [(4, .long 0), (2, .long 0), (0, .ref (h.2.2 0 0)), (1, .int a1)]) hx hb dX4_chord_17 hl (by decide) rfl (fun ls hl => ?_)
    refine lv_iconst (v := 0) hx hb dX4_chord_19 (by decide) ?_
    refine lv_istore (lv' := [(6, .int 0), (4, .long 0), (2, .long 0), (0, .ref (h.2.2 0 0)), (1, .int a1)]) hx hb dX4_chord_20 hl (by decide) rfl (fun ls hl => ?_)
    obtain ⟨z7, hz7, hF⟩ := bnd hF
    refine lX4_chord_22 C0 hlo hK hZ a1  _ 0 0 0 _ z7 hz7 _ _ _ hW hS (lv_sub hl [3, 4, 2, 1, 0] rfl) (fun H locs ls hW hS hl => ?_)
    refine lv_lload_n hx hb dX4_chord_95 rfl (lv_at hl 0 rfl) ?_
    obtain ⟨z8, hz8, hF⟩ := bnd hF
    refine inI (runS C0 hlo hK hZ hW hS (kJ13_bitCount_95d88 l lo g h _ z7.1  _ _ hz8) wCO_J13_bitCount_95d88 wML_X4_257 wST_J13_bitCount_95d88 wIN_J13 hdsJ13_bitCount_95d88 ⟨Nat.le_of_ble_eq_true rfl, Nat.le_of_ble_eq_true rfl⟩ rfl hl.1 rfl (Nat.le_of_ble_eq_true rfl) dX4_chord_96 ⟨Nat.le_of_ble_eq_true rfl, Nat.le_of_ble_eq_true rfl⟩) hS (fun H locs hW hS => ?_)
    refine lv_lload hx hb dX4_chord_99 (lv_at hl 1 rfl) ?_
    obtain ⟨z9, hz9, hF⟩ := bnd hF
    refine inI (runS C0 hlo hK hZ hW hS (kJ13_bitCount_95d88 l lo g h _ z7.2.1  _ _ hz9) wCO_J13_bitCount_95d88 wML_X4_257 wST_J13_bitCount_95d88 wIN_J13 hdsJ13_bitCount_95d88 ⟨Nat.le_of_ble_eq_true rfl, Nat.le_of_ble_eq_true rfl⟩ rfl hl.1 rfl (Nat.le_of_ble_eq_true rfl) dX4_chord_101 ⟨Nat.le_of_ble_eq_true rfl, Nat.le_of_ble_eq_true rfl⟩) hS (fun H locs hW hS => ?_)
    refine lv_iadd hx hb dX4_chord_104 ?_
    cases hF
    refine W.widen (k := 1) (n := 6) (Nat.le_of_ble_eq_true rfl) (Nat.le_of_ble_eq_true rfl) ?_
    exact vx_ret (retX C0 hr hlk rfl hW hS dX4_chord_105)
  · rw [if_neg c1] at hF
    cases hF
    exact thrS (k := 2) (text := "tick is less than 0") C0 hnt hlk hK hZ hW hS hl.1 htb exs2 fit2 wCL_X4_32 wIN_java_lang_IllegalArgumentException vxA2 vxB2 vxO2 (by decide) dX4_chord_4 dX4_chord_7 dX4_chord_8 dX4_chord_10 dX4_chord_13 (Nat.le_of_ble_eq_true rfl) (Nat.le_of_ble_eq_true rfl) (Nat.le_of_ble_eq_true rfl) (Nat.le_of_ble_eq_true rfl) rfl
theorem hdX4_longest : yX4_longest.cls = RX4 ∧ yX4_longest.cls ≠ "java/lang/invoke/MethodHandle" ∧ yX4_longest.cls ≠ "java/lang/invoke/VarHandle" ∧ (parseMethodDescriptor yX4_longest.desc).map (fun d => d.parameters.length) = some 0 := by decide +kernel
def LX4_longest_9 (ns nb : Nat) : Nat → Int32 → Int32 → Int32 → Int32 → Sg → Option (Int32 × Sg)
  | 0, _, _, _, _, _ => none
  | n + 1, v1, v2, v3, v4, σ => if (σ.1 3 0 1) ≤ v4 then (some (v1, σ)) else ((FX2_told ns nb σ v4 1).bind fun z2 => if z2.1 = v3 then (LX4_longest_9 ns nb  n (mxI v1 (v2 + 1)) (v2 + 1) z2.1 (v4 + 1) z2.2) else (LX4_longest_9 ns nb  n (mxI v1 1) 1 z2.1 (v4 + 1) z2.2))
def FX4_longest (ns nb : Nat) (σ : Sg)  : Option (Int32 × Sg) :=
  (LX4_longest_9 ns nb  4100 0 0 (-1) 0 σ).bind fun z4 => some (z4.1, z4.2)
set_option maxHeartbeats 4000000 in
set_option maxRecDepth 100000 in
theorem lX4_longest_9 {p : Program} {l : Launch} {e : Env} {s : State} {m : MethodId} {args : Array Value} {below : List Frame} {meth : Method} {c : Code} {Q : State → Prop} {lo : Nat} {g : Gx} {h : Sh} (C0 : CallFix p m c cX4_longest 6 s args wB RX4) (hlo : lo ≤ s.heap.size) (hK : KW g s) (hZ : ZW lo s s.heap)   : ∀ (n : Nat) (v1 : Int32) (v2 : Int32) (v3 : Int32) (v4 : Int32) (σ : Sg) (z : (Int32 × Sg)) (hF : LX4_longest_9 h.1 h.2.1  n v1 v2 v3 v4 σ = some z) (H : Heap) (locs : List Loc) (ls : Array Slot) (hW : FW g h (Ax lo) σ H) (hS : va_S (Ax lo) s.heap H locs) (hl : lv_has ls 6 [(0, .ref (h.2.2 0 0)), (1, .int v1), (2, .int v2), (3, .int v3), (4, .int v4)]) (kk : ∀ (H : Heap) (locs : List Loc) (ls : Array Slot), FW g h (Ax lo) z.2 H → va_S (Ax lo) s.heap H locs → lv_has ls 6 [(1, .int z.1)] → W p l e { frames := 2, cells := 0, slots := 0, locals := 43 } s m args below meth c H locs 0 0 Q (F0 m 62 ls [])), W p l e { frames := 2, cells := 0, slots := 0, locals := 43 } s m args below meth c H locs 0 0 Q (F0 m 9 ls []) := by
  have hx := C0.1
  have hb := C0.2.1
  intro n
  induction n with
  | zero =>
    intro v1 v2 v3 v4 σ z hF
    rw [LX4_longest_9] at hF
    cases hF
  | succ n ih =>
    intro v1 v2 v3 v4 σ z hF H locs ls hW hS hl kk
    rw [LX4_longest_9] at hF
    refine lv_iload hx hb dX4_longest_9 (lv_at hl 4 rfl) ?_
    refine lv_aload_n hx hb dX4_longest_11 rfl (lv_at hl 0 rfl) ?_
    refine get0 C0 hK hW 0 (al0 h 0 (by decide)) 2 (by decide) wFL_X4_24 rfl rfl dX4_longest_12 ?_
    refine get3 C0 hK hW 0 (al0 h 3 (by decide)) 1 (by decide) wFL_X4_245 rfl rfl dX4_longest_15 ?_
    refine lv_icmp_ge (tgt := 62) hx hb dX4_longest_18 (by decide) (fun c1 => ?_) (fun c1 => ?_)
    · rw [if_pos c1] at hF
      cases hF
      exact kk _ _ _ hW hS (lv_sub hl [1] rfl)
    · rw [if_neg c1] at hF
      refine lv_aload_n hx hb dX4_longest_21 rfl (lv_at hl 0 rfl) ?_
      refine get0 C0 hK hW 0 (al0 h 0 (by decide)) 2 (by decide) wFL_X4_24 rfl rfl dX4_longest_22 ?_
      refine lv_iload hx hb dX4_longest_25 (lv_at hl 4 rfl) ?_
      refine lv_iconst (v := 1) hx hb dX4_longest_27 (by decide) ?_
      obtain ⟨z2, hz2, hF⟩ := bnd hF
      refine inI (runV C0 hlo hK hZ hW hS (kX2_told l lo g h _ v4 1  _ _ hz2) wCO_X2_told wML_X4_252 wIM_X2_told wSE_X2_X2_told wIN_X2 hdX2_told ⟨Nat.le_of_ble_eq_true rfl, Nat.le_of_ble_eq_true rfl⟩ (recvK hK hW (al0 h 3 (by decide)) (ct3 0) rfl) rfl hl.1 rfl (Nat.le_of_ble_eq_true rfl) dX4_longest_28 ⟨Nat.le_of_ble_eq_true rfl, Nat.le_of_ble_eq_true rfl⟩) hS (fun H locs hW hS => ?_)
      refine lv_istore (lv' := [(5, .int z2.1), (0, .ref (h.2.2 0 0)), (1, .int v1), (2, .int v2), (3, .int v3), (4, .int v4)]) hx hb dX4_longest_31 hl (by decide) rfl (fun ls hl => ?_)
      refine lv_iload hx hb dX4_longest_33 (lv_at hl 0 rfl) ?_
      refine lv_iload_n hx hb dX4_longest_35 rfl (lv_at hl 4 rfl) ?_
      refine lv_icmp_ne (tgt := 45) hx hb dX4_longest_36 (by decide) (fun c3 => ?_) (fun c3 => ?_)
      · rw [if_neg c3] at hF
        refine lv_iconst (v := 1) hx hb dX4_longest_45 (by decide) ?_
        refine lv_istore_n (lv' := [(2, .int 1), (5, .int z2.1), (0, .ref (h.2.2 0 0)), (1, .int v1), (3, .int v3), (4, .int v4)]) hx hb dX4_longest_46 rfl hl (by decide) rfl (fun ls hl => ?_)
        refine lv_iload hx hb dX4_longest_47 (lv_at hl 1 rfl) ?_
        refine lv_istore_n (lv' := [(3, .int z2.1), (2, .int 1), (5, .int z2.1), (0, .ref (h.2.2 0 0)), (1, .int v1), (4, .int v4)]) hx hb dX4_longest_49 rfl hl (by decide) rfl (fun ls hl => ?_)
        refine lv_iload_n hx hb dX4_longest_50 rfl (lv_at hl 4 rfl) ?_
        refine lv_iload_n hx hb dX4_longest_51 rfl (lv_at hl 1 rfl) ?_
        refine r_max C0 hl.1 wML_X4_262 (Nat.le_of_ble_eq_true rfl) (Nat.le_of_ble_eq_true rfl) (Nat.le_of_ble_eq_true rfl) (Nat.le_of_ble_eq_true rfl) dX4_longest_52 ?_
        refine lv_istore_n (lv' := [(1, .int (mxI v1 1)), (3, .int z2.1), (2, .int 1), (5, .int z2.1), (0, .ref (h.2.2 0 0)), (4, .int v4)]) hx hb dX4_longest_55 rfl hl (by decide) rfl (fun ls hl => ?_)
        refine lv_iinc (v := v4 + 1) (lv' := [(4, .int (v4 + 1)), (1, .int (mxI v1 1)), (3, .int z2.1), (2, .int 1), (5, .int z2.1), (0, .ref (h.2.2 0 0))]) hx hb dX4_longest_56 hl (k := 5) rfl rfl (by decide) rfl (fun ls hl => ?_)
        refine lv_goto (tgt := 9) hx hb dX4_longest_59 (by decide) ?_
        exact ih (mxI v1 1) 1 z2.1 (v4 + 1) z2.2 z hF _ _ _ hW hS (lv_sub hl [5, 1, 3, 2, 0] rfl) kk
      · rw [if_pos c3] at hF
        refine lv_iload_n hx hb dX4_longest_39 rfl (lv_at hl 3 rfl) ?_
        refine lv_iconst (v := 1) hx hb dX4_longest_40 (by decide) ?_
        refine lv_iadd hx hb dX4_longest_41 ?_
        refine lv_goto (tgt := 46) hx hb dX4_longest_42 (by decide) ?_
        refine lv_istore_n (lv' := [(2, .int (v2 + 1)), (5, .int z2.1), (0, .ref (h.2.2 0 0)), (1, .int v1), (3, .int v3), (4, .int v4)]) hx hb dX4_longest_46 rfl hl (by decide) rfl (fun ls hl => ?_)
        refine lv_iload hx hb dX4_longest_47 (lv_at hl 1 rfl) ?_
        refine lv_istore_n (lv' := [(3, .int z2.1), (2, .int (v2 + 1)), (5, .int z2.1), (0, .ref (h.2.2 0 0)), (1, .int v1), (4, .int v4)]) hx hb dX4_longest_49 rfl hl (by decide) rfl (fun ls hl => ?_)
        refine lv_iload_n hx hb dX4_longest_50 rfl (lv_at hl 4 rfl) ?_
        refine lv_iload_n hx hb dX4_longest_51 rfl (lv_at hl 1 rfl) ?_
        refine r_max C0 hl.1 wML_X4_262 (Nat.le_of_ble_eq_true rfl) (Nat.le_of_ble_eq_true rfl) (Nat.le_of_ble_eq_true rfl) (Nat.le_of_ble_eq_true rfl) dX4_longest_52 ?_
        refine lv_istore_n (lv' := [(1, .int (mxI v1 (v2 + 1))), (3, .int z2.1), (2, .int (v2 + 1)), (5, .int z2.1), (0, .ref (h.2.2 0 0)), (4, .int v4)]) hx hb dX4_longest_55 rfl hl (by decide) rfl (fun ls hl => ?_)
        refine lv_iinc (v := v4 + 1) (lv' := [(4, .int (v4 + 1)), (1, .int (mxI v1 (v2 + 1))), (3, .int z2.1), (2, .int (v2 + 1)), (5, .int z2.1), (0, .ref (h.2.2 0 0))]) hx hb dX4_longest_56 hl (k := 5) rfl rfl (by decide) rfl (fun ls hl => ?_)
        refine lv_goto (tgt := 9) hx hb dX4_longest_59 (by decide) ?_
        exact ih (mxI v1 (v2 + 1)) (v2 + 1) z2.1 (v4 + 1) z2.2 z hF _ _ _ hW hS (lv_sub hl [5, 1, 3, 2, 0] rfl) kk
set_option maxHeartbeats 4000000 in
set_option maxRecDepth 100000 in
theorem kX4_longest (l : Launch) (lo : Nat) (g : Gx) (h : Sh) (σ : Sg)   (r : Int32) (σ1 : Sg) (hF : FX4_longest h.1 h.2.1 σ  = some (r, σ1)) : MI l yX4_longest (ws_ yX4_longest cX4_longest 6 (some .int)) 2 43 0 0 lo g h [.ref (h.2.2 0 0)] σ r σ1 := by
  refine ofB (own := RX4) (by decide +kernel) rfl (fun p e s m below meth c C0 hr hlk hlo hK hZ hW hS ls hl => ?_) (Nat.le_of_ble_eq_true rfl)
  have hx := C0.1
  have hb := C0.2.1
  have hl : lv_has ls 6 [(0, .ref (h.2.2 0 0))] := hl
  unfold FX4_longest at hF
  refine lv_iconst (v := 0) hx hb dX4_longest_0 (by decide) ?_
  refine lv_istore_n (lv' := [(1, .int 0), (0, .ref (h.2.2 0 0))]) hx hb dX4_longest_1 rfl hl (by decide) rfl (fun ls hl => ?_)
  refine lv_iconst (v := 0) hx hb dX4_longest_2 (by decide) ?_
  refine lv_istore_n (lv' := [(2, .int 0), (1, .int 0), (0, .ref (h.2.2 0 0))]) hx hb dX4_longest_3 rfl hl (by decide) rfl (fun ls hl => ?_)
  refine lv_iconst (v := (-1)) hx hb dX4_longest_4 (by decide) ?_
  refine lv_istore_n (lv' := [(3, .int (-1)), (2, .int 0), (1, .int 0), (0, .ref (h.2.2 0 0))]) hx hb dX4_longest_5 rfl hl (by decide) rfl (fun ls hl => ?_)
  refine lv_iconst (v := 0) hx hb dX4_longest_6 (by decide) ?_
  refine lv_istore (lv' := [(4, .int 0), (3, .int (-1)), (2, .int 0), (1, .int 0), (0, .ref (h.2.2 0 0))]) hx hb dX4_longest_7 hl (by decide) rfl (fun ls hl => ?_)
  obtain ⟨z4, hz4, hF⟩ := bnd hF
  refine lX4_longest_9 C0 hlo hK hZ   _ 0 0 (-1) 0 _ z4 hz4 _ _ _ hW hS (lv_sub hl [4, 3, 2, 1, 0] rfl) (fun H locs ls hW hS hl => ?_)
  refine lv_iload_n hx hb dX4_longest_62 rfl (lv_at hl 0 rfl) ?_
  cases hF
  exact retI C0 hr hlk hW hS dX4_longest_63
theorem hdX4_emptySongs : yX4_emptySongs.cls = RX4 ∧ yX4_emptySongs.cls ≠ "java/lang/invoke/MethodHandle" ∧ yX4_emptySongs.cls ≠ "java/lang/invoke/VarHandle" ∧ (parseMethodDescriptor yX4_emptySongs.desc).map (fun d => d.parameters.length) = some 0 := by decide +kernel
def FX4_emptySongs (ns nb : Nat) (σ : Sg)  : Option (Int32 × Sg) :=
  (FX2_clearAll ns nb σ ).bind fun z1 => some (σ.1 3 0 1, z1)
set_option maxHeartbeats 4000000 in
set_option maxRecDepth 100000 in
theorem kX4_emptySongs (l : Launch) (lo : Nat) (g : Gx) (h : Sh) (σ : Sg)   (r : Int32) (σ1 : Sg) (hF : FX4_emptySongs h.1 h.2.1 σ  = some (r, σ1)) : MI l yX4_emptySongs (ws_ yX4_emptySongs cX4_emptySongs 2 (some .int)) 1 20 0 0 lo g h [.ref (h.2.2 0 0)] σ r σ1 := by
  refine ofB (own := RX4) (by decide +kernel) rfl (fun p e s m below meth c C0 hr hlk hlo hK hZ hW hS ls hl => ?_) (Nat.le_of_ble_eq_true rfl)
  have hx := C0.1
  have hb := C0.2.1
  have hl : lv_has ls 2 [(0, .ref (h.2.2 0 0))] := hl
  unfold FX4_emptySongs at hF
  refine lv_aload_n hx hb dX4_emptySongs_0 rfl (lv_at hl 0 rfl) ?_
  refine get0 C0 hK hW 0 (al0 h 0 (by decide)) 2 (by decide) wFL_X4_24 rfl rfl dX4_emptySongs_1 ?_
  refine get3 C0 hK hW 0 (al0 h 3 (by decide)) 1 (by decide) wFL_X4_245 rfl rfl dX4_emptySongs_4 ?_
  refine lv_istore_n (lv' := [(1, .int (σ.1 3 0 1)), (0, .ref (h.2.2 0 0))]) hx hb dX4_emptySongs_7 rfl hl (by decide) rfl (fun ls hl => ?_)
  refine lv_aload_n hx hb dX4_emptySongs_8 rfl (lv_at hl 1 rfl) ?_
  refine get0 C0 hK hW 0 (al0 h 0 (by decide)) 2 (by decide) wFL_X4_24 rfl rfl dX4_emptySongs_9 ?_
  obtain ⟨z1, hz1, hF⟩ := bnd hF
  refine inV (runV C0 hlo hK hZ hW hS (kX2_clearAll l lo g h _   _ hz1) wCO_X2_clearAll wML_X4_265 wIM_X2_clearAll wSE_X2_X2_clearAll wIN_X2 hdX2_clearAll ⟨Nat.le_of_ble_eq_true rfl, Nat.le_of_ble_eq_true rfl⟩ (recvK hK hW (al0 h 3 (by decide)) (ct3 0) rfl) rfl hl.1 rfl (Nat.le_of_ble_eq_true rfl) dX4_emptySongs_12 ⟨Nat.le_of_ble_eq_true rfl, Nat.le_of_ble_eq_true rfl⟩) hS (fun H locs hW hS => ?_)
  refine lv_iload_n hx hb dX4_emptySongs_15 rfl (lv_at hl 0 rfl) ?_
  cases hF
  exact retI C0 hr hlk hW hS dX4_emptySongs_16
theorem hdX4_runsDown : yX4_runsDown.cls = RX4 ∧ yX4_runsDown.cls ≠ "java/lang/invoke/MethodHandle" ∧ yX4_runsDown.cls ≠ "java/lang/invoke/VarHandle" ∧ (parseMethodDescriptor yX4_runsDown.desc).map (fun d => d.parameters.length) = some 1 := by decide +kernel
def LX4_runsDown_39 (ns nb : Nat) (v1 : Int32) (v2 : Int32) : Nat → Int32 → Int32 → Sg → Option (Int32 × Sg)
  | 0, _, _, _ => none
  | n + 1, v3, v4, σ => if v1 ≤ v4 then (some (v3, σ)) else (if v3 = 0 then ((FX4_goOneTick ns nb σ ).bind fun z7 => (FX4_areAllDown ns nb z7.2 ).bind fun z8 => LX4_runsDown_39 ns nb v1 v2 n z8.1 (v4 + 1) z8.2) else (some (v3, σ)))
def FX4_runsDown (ns nb : Nat) (σ : Sg) (a1 : Int32) : Option ((Nat ⊕ Int32) × Sg) :=
  (FX4_isIn ns nb σ a1 1 2000).bind fun z1 => if z1.1 = 0 then (some (.inl 2, z1.2)) else ((FX4_rememberAll ns nb z1.2 ).bind fun z3 => (FX4_areAllDown ns nb z3 ).bind fun z4 => (LX4_runsDown_39 ns nb a1 (z1.2.1 0 0 6) 4100 z4.1 0 z4.2).bind fun z9 => (FX4_recallAll ns nb z9.2 ).bind fun z10 => if z9.1 = 0 then (some (.inr (-1), (sI z10 0 0 6 (z1.2.1 0 0 6)))) else (some (.inr (z9.2.1 0 0 6), (sI z10 0 0 6 (z1.2.1 0 0 6)))))
set_option maxHeartbeats 4000000 in
set_option maxRecDepth 100000 in
theorem lX4_runsDown_39 {p : Program} {l : Launch} {e : Env} {s : State} {m : MethodId} {args : Array Value} {below : List Frame} {meth : Method} {c : Code} {Q : State → Prop} {lo : Nat} {g : Gx} {h : Sh} (C0 : CallFix p m c cX4_runsDown 5 s args wB RX4) (hlo : lo ≤ s.heap.size) (hK : KW g s) (hZ : ZW lo s s.heap) (v1 : Int32) (v2 : Int32)  : ∀ (n : Nat) (v3 : Int32) (v4 : Int32) (σ : Sg) (z : (Int32 × Sg)) (hF : LX4_runsDown_39 h.1 h.2.1 v1 v2 n v3 v4 σ = some z) (H : Heap) (locs : List Loc) (ls : Array Slot) (hW : FW g h (Ax lo) σ H) (hS : va_S (Ax lo) s.heap H locs) (hl : lv_has ls 5 [(0, .ref (h.2.2 0 0)), (1, .int v1), (2, .int v2), (3, .int v3), (4, .int v4)]) (kk : ∀ (H : Heap) (locs : List Loc) (ls : Array Slot), FW g h (Ax lo) z.2 H → va_S (Ax lo) s.heap H locs → lv_has ls 5 [(0, .ref (h.2.2 0 0)), (2, .int v2), (3, .int z.1)] → W p l e { frames := 6, cells := 1, slots := 6, locals := 150 } s m args below meth c H locs 0 0 Q (F0 m 65 ls [])), W p l e { frames := 6, cells := 1, slots := 6, locals := 150 } s m args below meth c H locs 0 0 Q (F0 m 39 ls []) := by
  have hx := C0.1
  have hb := C0.2.1
  intro n
  induction n with
  | zero =>
    intro v3 v4 σ z hF
    rw [LX4_runsDown_39] at hF
    cases hF
  | succ n ih =>
    intro v3 v4 σ z hF H locs ls hW hS hl kk
    rw [LX4_runsDown_39] at hF
    refine lv_iload hx hb dX4_runsDown_39 (lv_at hl 4 rfl) ?_
    refine lv_iload_n hx hb dX4_runsDown_41 rfl (lv_at hl 1 rfl) ?_
    refine lv_icmp_ge (tgt := 65) hx hb dX4_runsDown_42 (by decide) (fun c5 => ?_) (fun c5 => ?_)
    · rw [if_pos c5] at hF
      cases hF
      exact kk _ _ _ hW hS (lv_sub hl [0, 2, 3] rfl)
    · rw [if_neg c5] at hF
      refine lv_iload_n hx hb dX4_runsDown_45 rfl (lv_at hl 3 rfl) ?_
      refine lv_if_ne (tgt := 65) hx hb dX4_runsDown_46 (by decide) (fun c6 => ?_) (fun c6 => ?_)
      · rw [if_neg c6] at hF
        cases hF
        exact kk _ _ _ hW hS (lv_sub hl [0, 2, 3] rfl)
      · rw [if_pos c6] at hF
        refine lv_aload_n hx hb dX4_runsDown_49 rfl (lv_at hl 0 rfl) ?_
        obtain ⟨z7, hz7, hF⟩ := bnd hF
        refine inI (runV C0 hlo hK hZ hW hS (kX4_goOneTick l lo g h _   _ _ hz7) wCO_X4_goOneTick wML_X4_231 wIM_X4_goOneTick wSE_X4_X4_goOneTick wIN_X4 hdX4_goOneTick ⟨Nat.le_of_ble_eq_true rfl, Nat.le_of_ble_eq_true rfl⟩ (recvK hK hW (al0 h 0 (by decide)) (ct0 0) rfl) rfl hl.1 rfl (Nat.le_of_ble_eq_true rfl) dX4_runsDown_50 ⟨Nat.le_of_ble_eq_true rfl, Nat.le_of_ble_eq_true rfl⟩) hS (fun H locs hW hS => ?_)
        refine lv_pop hx hb dX4_runsDown_53 rfl ?_
        refine lv_aload_n hx hb dX4_runsDown_54 rfl (lv_at hl 0 rfl) ?_
        obtain ⟨z8, hz8, hF⟩ := bnd hF
        refine inI (runV C0 hlo hK hZ hW hS (kX4_areAllDown l lo g h _   _ _ hz8) wCO_X4_areAllDown wML_X4_273 wIM_X4_areAllDown wSE_X4_X4_areAllDown wIN_X4 hdX4_areAllDown ⟨Nat.le_of_ble_eq_true rfl, Nat.le_of_ble_eq_true rfl⟩ (recvK hK hW (al0 h 0 (by decide)) (ct0 0) rfl) rfl hl.1 rfl (Nat.le_of_ble_eq_true rfl) dX4_runsDown_55 ⟨Nat.le_of_ble_eq_true rfl, Nat.le_of_ble_eq_true rfl⟩) hS (fun H locs hW hS => ?_)
        refine lv_istore_n (lv' := [(3, .int z8.1), (0, .ref (h.2.2 0 0)), (1, .int v1), (2, .int v2), (4, .int v4)]) hx hb dX4_runsDown_58 rfl hl (by decide) rfl (fun ls hl => ?_)
        refine lv_iinc (v := v4 + 1) (lv' := [(4, .int (v4 + 1)), (3, .int z8.1), (0, .ref (h.2.2 0 0)), (1, .int v1), (2, .int v2)]) hx hb dX4_runsDown_59 hl (k := 4) rfl rfl (by decide) rfl (fun ls hl => ?_)
        refine lv_goto (tgt := 39) hx hb dX4_runsDown_62 (by decide) ?_
        exact ih z8.1 (v4 + 1) z8.2 z hF _ _ _ hW hS (lv_sub hl [2, 3, 4, 1, 0] rfl) kk
set_option maxHeartbeats 4000000 in
set_option maxRecDepth 100000 in
theorem kX4_runsDown (l : Launch) (hnt : l.stackTraces = false) (lo : Nat) (g : Gx) (h : Sh) (σ : Sg) (a1 : Int32)  (res : (Nat ⊕ Int32) × Sg) (hF : FX4_runsDown h.1 h.2.1 σ a1 = some res) : MX l yX4_runsDown (ws_ yX4_runsDown cX4_runsDown 5 (some .int)) 6 150 1 6 lo g h [.ref (h.2.2 0 0), .int a1] σ res := by
  refine ofX (own := RX4) (by decide +kernel) rfl (fun p e s m below meth c C0 hr hlk hlo hK hZ hW hS htb ls hl => ?_) (Nat.le_of_ble_eq_true rfl)
  have hx := C0.1
  have hb := C0.2.1
  have hl : lv_has ls 5 [(0, .ref (h.2.2 0 0)), (1, .int a1)] := hl
  unfold FX4_runsDown at hF
  refine lv_iload_n hx hb dX4_runsDown_0 rfl (lv_at hl 1 rfl) ?_
  refine lv_iconst (v := 1) hx hb dX4_runsDown_1 (by decide) ?_
  refine lv_sipush (v := 2000) hx hb dX4_runsDown_2 (by decide) ?_
  obtain ⟨z1, hz1, hF⟩ := bnd hF
  refine inI (runS C0 hlo hK hZ hW hS (kX4_isIn l lo g h _ a1 1 2000  _ _ hz1) wCO_X4_isIn wML_X4_28 wST_X4_isIn wIN_X4 hdsX4_isIn ⟨Nat.le_of_ble_eq_true rfl, Nat.le_of_ble_eq_true rfl⟩ rfl hl.1 rfl (Nat.le_of_ble_eq_true rfl) dX4_runsDown_5 ⟨Nat.le_of_ble_eq_true rfl, Nat.le_of_ble_eq_true rfl⟩) hS (fun H locs hW hS => ?_)
  refine lv_if_ne (tgt := 22) hx hb dX4_runsDown_8 (by decide) (fun c2 => ?_) (fun c2 => ?_)
  · rw [if_neg c2] at hF
    refine lv_aload_n hx hb dX4_runsDown_22 rfl (lv_at hl 0 rfl) ?_
    refine get0 C0 hK hW 0 (al0 h 0 (by decide)) 6 (by decide) wFL_X4_234 rfl rfl dX4_runsDown_23 ?_
    refine lv_istore_n (lv' := [(2, .int (z1.2.1 0 0 6)), (0, .ref (h.2.2 0 0)), (1, .int a1)]) hx hb dX4_runsDown_26 rfl hl (by decide) rfl (fun ls hl => ?_)
    refine lv_aload_n hx hb dX4_runsDown_27 rfl (lv_at hl 1 rfl) ?_
    obtain ⟨z3, hz3, hF⟩ := bnd hF
    refine inV (runV C0 hlo hK hZ hW hS (kX4_rememberAll l lo g h _   _ hz3) wCO_X4_rememberAll wML_X4_270 wIM_X4_rememberAll wSE_X4_X4_rememberAll wIN_X4 hdX4_rememberAll ⟨Nat.le_of_ble_eq_true rfl, Nat.le_of_ble_eq_true rfl⟩ (recvK hK hW (al0 h 0 (by decide)) (ct0 0) rfl) rfl hl.1 rfl (Nat.le_of_ble_eq_true rfl) dX4_runsDown_28 ⟨Nat.le_of_ble_eq_true rfl, Nat.le_of_ble_eq_true rfl⟩) hS (fun H locs hW hS => ?_)
    refine lv_aload_n hx hb dX4_runsDown_31 rfl (lv_at hl 1 rfl) ?_
    obtain ⟨z4, hz4, hF⟩ := bnd hF
    refine inI (runV C0 hlo hK hZ hW hS (kX4_areAllDown l lo g h _   _ _ hz4) wCO_X4_areAllDown wML_X4_273 wIM_X4_areAllDown wSE_X4_X4_areAllDown wIN_X4 hdX4_areAllDown ⟨Nat.le_of_ble_eq_true rfl, Nat.le_of_ble_eq_true rfl⟩ (recvK hK hW (al0 h 0 (by decide)) (ct0 0) rfl) rfl hl.1 rfl (Nat.le_of_ble_eq_true rfl) dX4_runsDown_32 ⟨Nat.le_of_ble_eq_true rfl, Nat.le_of_ble_eq_true rfl⟩) hS (fun H locs hW hS => ?_)
    refine lv_istore_n (lv' := [(3, .int z4.1), (2, .int (z1.2.1 0 0 6)), (0, .ref (h.2.2 0 0)), (1, .int a1)]) hx hb dX4_runsDown_35 rfl hl (by decide) rfl (fun ls hl => ?_)
    refine lv_iconst (v := 0) hx hb dX4_runsDown_36 (by decide) ?_
    refine lv_istore (lv' := [(4, .int 0), (3, .int z4.1), (2, .int (z1.2.1 0 0 6)), (0, .ref (h.2.2 0 0)), (1, .int a1)]) hx hb dX4_runsDown_37 hl (by decide) rfl (fun ls hl => ?_)
    obtain ⟨z9, hz9, hF⟩ := bnd hF
    refine lX4_runsDown_39 C0 hlo hK hZ a1 (z1.2.1 0 0 6)  _ z4.1 0 _ z9 hz9 _ _ _ hW hS (lv_sub hl [3, 4, 2, 1, 0] rfl) (fun H locs ls hW hS hl => ?_)
    refine lv_aload_n hx hb dX4_runsDown_65 rfl (lv_at hl 0 rfl) ?_
    refine get0 C0 hK hW 0 (al0 h 0 (by decide)) 6 (by decide) wFL_X4_234 rfl rfl dX4_runsDown_66 ?_
    refine lv_istore (lv' := [(4, .int (z9.2.1 0 0 6)), (0, .ref (h.2.2 0 0)), (2, .int (z1.2.1 0 0 6)), (3, .int z9.1)]) hx hb dX4_runsDown_69 hl (by decide) rfl (fun ls hl => ?_)
    refine lv_aload_n hx hb dX4_runsDown_71 rfl (lv_at hl 1 rfl) ?_
    obtain ⟨z10, hz10, hF⟩ := bnd hF
    refine inV (runV C0 hlo hK hZ hW hS (kX4_recallAll l lo g h _   _ hz10) wCO_X4_recallAll wML_X4_277 wIM_X4_recallAll wSE_X4_X4_recallAll wIN_X4 hdX4_recallAll ⟨Nat.le_of_ble_eq_true rfl, Nat.le_of_ble_eq_true rfl⟩ (recvK hK hW (al0 h 0 (by decide)) (ct0 0) rfl) rfl hl.1 rfl (Nat.le_of_ble_eq_true rfl) dX4_runsDown_72 ⟨Nat.le_of_ble_eq_true rfl, Nat.le_of_ble_eq_true rfl⟩) hS (fun H locs hW hS => ?_)
    refine lv_aload_n hx hb dX4_runsDown_75 rfl (lv_at hl 1 rfl) ?_
    refine lv_iload_n hx hb dX4_runsDown_76 rfl (lv_at hl 2 rfl) ?_
    refine put0_6 C0 hK hW hS 0 (al0 h 0 (by decide)) wFL_X4_234 dX4_runsDown_77 (fun H locs hW hS => ?_)
    refine lv_iload_n hx hb dX4_runsDown_80 rfl (lv_at hl 3 rfl) ?_
    refine lv_if_eq (tgt := 89) hx hb dX4_runsDown_81 (by decide) (fun c11 => ?_) (fun c11 => ?_)
    · rw [if_pos c11] at hF
      refine lv_iconst (v := (-1)) hx hb dX4_runsDown_89 (by decide) ?_
      cases hF
      refine W.widen (k := 1) (n := 6) (Nat.le_of_ble_eq_true rfl) (Nat.le_of_ble_eq_true rfl) ?_
      exact vx_ret (retX C0 hr hlk rfl hW hS dX4_runsDown_90)
    · rw [if_neg c11] at hF
      refine lv_iload hx hb dX4_runsDown_84 (lv_at hl 0 rfl) ?_
      refine lv_goto (tgt := 90) hx hb dX4_runsDown_86 (by decide) ?_
      cases hF
      refine W.widen (k := 1) (n := 6) (Nat.le_of_ble_eq_true rfl) (Nat.le_of_ble_eq_true rfl) ?_
      exact vx_ret (retX C0 hr hlk rfl hW hS dX4_runsDown_90)
  · rw [if_pos c2] at hF
    cases hF
    exact thrSW (k := 2) (text := "most is not 1 to 2000") C0 hnt hlk hK hZ hW hS hl.1 htb exs2 fit2 wCL_X4_32 wIN_java_lang_IllegalArgumentException vxA2 vxB2 vxO2 (by decide) dX4_runsDown_11 dX4_runsDown_14 dX4_runsDown_15 dX4_runsDown_18 dX4_runsDown_21 (Nat.le_of_ble_eq_true rfl) (Nat.le_of_ble_eq_true rfl) (Nat.le_of_ble_eq_true rfl) (Nat.le_of_ble_eq_true rfl) rfl
theorem hdX4_mixBird : yX4_mixBird.cls = RX4 ∧ yX4_mixBird.cls ≠ "java/lang/invoke/MethodHandle" ∧ yX4_mixBird.cls ≠ "java/lang/invoke/VarHandle" ∧ (parseMethodDescriptor yX4_mixBird.desc).map (fun d => d.parameters.length) = some 2 := by decide +kernel
def LX4_mixBird_6 (ns nb : Nat) (v3 : Int32) : Nat → Int64 → Int32 → Sg → Option (Int64 × Sg)
  | 0, _, _, _ => none
  | n + 1, v4, v6, σ => if 10 ≤ v6 then (some (v4, σ)) else ((FX4_bird ns nb σ v3 v6).bind fun z2 => oe z2.1 fun rz2 => (FX4_mix ns nb z2.2 v4 rz2).bind fun z3 => LX4_mixBird_6 ns nb v3 n z3.1 (v6 + 1) z3.2)
def LX4_mixBird_92 (ns nb : Nat) (v3 : Int32) : Nat → Int64 → Int32 → Sg → Option (Int64 × Sg)
  | 0, _, _, _ => none
  | n + 1, v4, v7, σ => if 3 ≤ v7 then (some (v4, σ)) else ((FX4_lift ns nb σ v3 v7 (-1)).bind fun z7 => oe z7.1 fun rz7 => (FX4_mix ns nb z7.2 v4 rz7).bind fun z8 => LX4_mixBird_92 ns nb v3 n z8.1 (v7 + 1) z8.2)
def LX4_mixBird_60 (ns nb : Nat) (v3 : Int32) (j7 : Nat) : Nat → Int64 → Int32 → Sg → Option (Int64 × Sg)
  | 0, _, _, _ => none
  | n + 1, v4, v9, σ => if 6 ≤ v9 then (some (v4, σ)) else (if (v9 < 0 ∨ 6 ≤ v9.toNatClampNeg) then none else ((FX4_mix ns nb σ v4 (σ.1 8 j7 v9.toNatClampNeg)).bind fun z11 => LX4_mixBird_60 ns nb v3 j7 n z11.1 (v9 + 1) z11.2))
def FX4_mixBird (ns nb : Nat) (σ : Sg) (a1 : Int64) (a3 : Int32) : Option (Int64 × Sg) :=
  (LX4_mixBird_6 ns nb a3 4100 a1 0 σ).bind fun z4 => (FX4_birdAt ns nb z4.2 a3).bind fun z5 => oc z5.1 ((LX4_mixBird_92 ns nb a3 4100 z4.1 0 z5.2).bind fun z9 => some (z9.1, z9.2)) (fun iz5 => if iz5 < nb then ((LX4_mixBird_60 ns nb a3 iz5 4100 z4.1 0 z5.2).bind fun z12 => (LX4_mixBird_92 ns nb a3 4100 z12.1 0 z12.2).bind fun z13 => some (z13.1, z13.2)) else none)
set_option maxHeartbeats 4000000 in
set_option maxRecDepth 100000 in
theorem lX4_mixBird_6 {p : Program} {l : Launch} {e : Env} {s : State} {m : MethodId} {args : Array Value} {below : List Frame} {meth : Method} {c : Code} {Q : State → Prop} {lo : Nat} {g : Gx} {h : Sh} (C0 : CallFix p m c cX4_mixBird 11 s args wB RX4) (hlo : lo ≤ s.heap.size) (hK : KW g s) (hZ : ZW lo s s.heap) (v3 : Int32)  : ∀ (n : Nat) (v4 : Int64) (v6 : Int32) (σ : Sg) (z : (Int64 × Sg)) (hF : LX4_mixBird_6 h.1 h.2.1 v3 n v4 v6 σ = some z) (H : Heap) (locs : List Loc) (ls : Array Slot) (hW : FW g h (Ax lo) σ H) (hS : va_S (Ax lo) s.heap H locs) (hl : lv_has ls 11 [(0, .ref (h.2.2 0 0)), (3, .int v3), (4, .long v4), (6, .int v6)]) (kk : ∀ (H : Heap) (locs : List Loc) (ls : Array Slot), FW g h (Ax lo) z.2 H → va_S (Ax lo) s.heap H locs → lv_has ls 11 [(0, .ref (h.2.2 0 0)), (3, .int v3), (4, .long z.1)] → W p l e { frames := 3, cells := 0, slots := 0, locals := 68 } s m args below meth c H locs 0 0 Q (F0 m 33 ls [])), W p l e { frames := 3, cells := 0, slots := 0, locals := 68 } s m args below meth c H locs 0 0 Q (F0 m 6 ls []) := by
  have hx := C0.1
  have hb := C0.2.1
  intro n
  induction n with
  | zero =>
    intro v4 v6 σ z hF
    rw [LX4_mixBird_6] at hF
    cases hF
  | succ n ih =>
    intro v4 v6 σ z hF H locs ls hW hS hl kk
    rw [LX4_mixBird_6] at hF
    refine lv_iload hx hb dX4_mixBird_6 (lv_at hl 3 rfl) ?_
    refine lv_bipush (v := 10) hx hb dX4_mixBird_8 (by decide) ?_
    refine lv_icmp_ge (tgt := 33) hx hb dX4_mixBird_10 (by decide) (fun c1 => ?_) (fun c1 => ?_)
    · rw [if_pos c1] at hF
      cases hF
      exact kk _ _ _ hW hS (lv_sub hl [0, 1, 2] rfl)
    · rw [if_neg c1] at hF
      refine lv_lload hx hb dX4_mixBird_13 (lv_at hl 2 rfl) ?_
      refine lv_aload_n hx hb dX4_mixBird_15 rfl (lv_at hl 0 rfl) ?_
      refine lv_iload_n hx hb dX4_mixBird_16 rfl (lv_at hl 1 rfl) ?_
      refine lv_iload hx hb dX4_mixBird_17 (lv_at hl 3 rfl) ?_
      obtain ⟨z2, hz2, hF⟩ := bnd hF
      obtain ⟨rz2, ez2, hF⟩ := oeD hF
      have hz2 := hz2.trans (show some z2 = some (.inr rz2, z2.2) by rw [← ez2])
      refine inI (runV C0 hlo hK hZ hW hS (nX4_bird l lo g h _ v3 v6  _ _ hz2) wCO_X4_bird wML_X4_358 wIM_X4_bird wSE_X4_X4_bird wIN_X4 hdX4_bird ⟨Nat.le_of_ble_eq_true rfl, Nat.le_of_ble_eq_true rfl⟩ (recvK hK hW (al0 h 0 (by decide)) (ct0 0) rfl) rfl hl.1 rfl (Nat.le_of_ble_eq_true rfl) dX4_mixBird_19 ⟨Nat.le_of_ble_eq_true rfl, Nat.le_of_ble_eq_true rfl⟩) hS (fun H locs hW hS => ?_)
      obtain ⟨z3, hz3, hF⟩ := bnd hF
      refine inL (runS C0 hlo hK hZ hW hS (kX4_mix l lo g h _ v4 rz2  _ _ hz3) wCO_X4_mix wML_X4_285 wST_X4_mix wIN_X4 hdsX4_mix ⟨Nat.le_of_ble_eq_true rfl, Nat.le_of_ble_eq_true rfl⟩ rfl hl.1 rfl (Nat.le_of_ble_eq_true rfl) dX4_mixBird_22 ⟨Nat.le_of_ble_eq_true rfl, Nat.le_of_ble_eq_true rfl⟩) hS (fun H locs hW hS => ?_)
      refine lv_lstore (lv' := [(4, .long z3.1), (0, .ref (h.2.2 0 0)), (3, .int v3), (6, .int v6)]) hx hb dX4_mixBird_25 hl (by decide) rfl (fun ls hl => ?_)
      refine lv_iinc (v := v6 + 1) (lv' := [(6, .int (v6 + 1)), (4, .long z3.1), (0, .ref (h.2.2 0 0)), (3, .int v3)]) hx hb dX4_mixBird_27 hl (k := 3) rfl rfl (by decide) rfl (fun ls hl => ?_)
      refine lv_goto (tgt := 6) hx hb dX4_mixBird_30 (by decide) ?_
      exact ih z3.1 (v6 + 1) z3.2 z hF _ _ _ hW hS (lv_sub hl [2, 3, 1, 0] rfl) kk
set_option maxHeartbeats 4000000 in
set_option maxRecDepth 100000 in
theorem lX4_mixBird_92 {p : Program} {l : Launch} {e : Env} {s : State} {m : MethodId} {args : Array Value} {below : List Frame} {meth : Method} {c : Code} {Q : State → Prop} {lo : Nat} {g : Gx} {h : Sh} (C0 : CallFix p m c cX4_mixBird 11 s args wB RX4) (hlo : lo ≤ s.heap.size) (hK : KW g s) (hZ : ZW lo s s.heap) (v3 : Int32)  : ∀ (n : Nat) (v4 : Int64) (v7 : Int32) (σ : Sg) (z : (Int64 × Sg)) (hF : LX4_mixBird_92 h.1 h.2.1 v3 n v4 v7 σ = some z) (H : Heap) (locs : List Loc) (ls : Array Slot) (hW : FW g h (Ax lo) σ H) (hS : va_S (Ax lo) s.heap H locs) (hl : lv_has ls 11 [(0, .ref (h.2.2 0 0)), (3, .int v3), (4, .long v4), (7, .int v7)]) (kk : ∀ (H : Heap) (locs : List Loc) (ls : Array Slot), FW g h (Ax lo) z.2 H → va_S (Ax lo) s.heap H locs → lv_has ls 11 [(4, .long z.1)] → W p l e { frames := 3, cells := 0, slots := 0, locals := 68 } s m args below meth c H locs 0 0 Q (F0 m 119 ls [])), W p l e { frames := 3, cells := 0, slots := 0, locals := 68 } s m args below meth c H locs 0 0 Q (F0 m 92 ls []) := by
  have hx := C0.1
  have hb := C0.2.1
  intro n
  induction n with
  | zero =>
    intro v4 v7 σ z hF
    rw [LX4_mixBird_92] at hF
    cases hF
  | succ n ih =>
    intro v4 v7 σ z hF H locs ls hW hS hl kk
    rw [LX4_mixBird_92] at hF
    refine lv_iload hx hb dX4_mixBird_92 (lv_at hl 3 rfl) ?_
    refine lv_iconst (v := 3) hx hb dX4_mixBird_94 (by decide) ?_
    refine lv_icmp_ge (tgt := 119) hx hb dX4_mixBird_95 (by decide) (fun c6 => ?_) (fun c6 => ?_)
    · rw [if_pos c6] at hF
      cases hF
      exact kk _ _ _ hW hS (lv_sub hl [2] rfl)
    · rw [if_neg c6] at hF
      refine lv_lload hx hb dX4_mixBird_98 (lv_at hl 2 rfl) ?_
      refine lv_aload_n hx hb dX4_mixBird_100 rfl (lv_at hl 0 rfl) ?_
      refine lv_iload_n hx hb dX4_mixBird_101 rfl (lv_at hl 1 rfl) ?_
      refine lv_iload hx hb dX4_mixBird_102 (lv_at hl 3 rfl) ?_
      refine lv_iconst (v := (-1)) hx hb dX4_mixBird_104 (by decide) ?_
      obtain ⟨z7, hz7, hF⟩ := bnd hF
      obtain ⟨rz7, ez7, hF⟩ := oeD hF
      have hz7 := hz7.trans (show some z7 = some (.inr rz7, z7.2) by rw [← ez7])
      refine inI (runV C0 hlo hK hZ hW hS (nX4_lift l lo g h _ v3 v7 (-1)  _ _ hz7) wCO_X4_lift wML_X4_361 wIM_X4_lift wSE_X4_X4_lift wIN_X4 hdX4_lift ⟨Nat.le_of_ble_eq_true rfl, Nat.le_of_ble_eq_true rfl⟩ (recvK hK hW (al0 h 0 (by decide)) (ct0 0) rfl) rfl hl.1 rfl (Nat.le_of_ble_eq_true rfl) dX4_mixBird_105 ⟨Nat.le_of_ble_eq_true rfl, Nat.le_of_ble_eq_true rfl⟩) hS (fun H locs hW hS => ?_)
      obtain ⟨z8, hz8, hF⟩ := bnd hF
      refine inL (runS C0 hlo hK hZ hW hS (kX4_mix l lo g h _ v4 rz7  _ _ hz8) wCO_X4_mix wML_X4_285 wST_X4_mix wIN_X4 hdsX4_mix ⟨Nat.le_of_ble_eq_true rfl, Nat.le_of_ble_eq_true rfl⟩ rfl hl.1 rfl (Nat.le_of_ble_eq_true rfl) dX4_mixBird_108 ⟨Nat.le_of_ble_eq_true rfl, Nat.le_of_ble_eq_true rfl⟩) hS (fun H locs hW hS => ?_)
      refine lv_lstore (lv' := [(4, .long z8.1), (0, .ref (h.2.2 0 0)), (3, .int v3), (7, .int v7)]) hx hb dX4_mixBird_111 hl (by decide) rfl (fun ls hl => ?_)
      refine lv_iinc (v := v7 + 1) (lv' := [(7, .int (v7 + 1)), (4, .long z8.1), (0, .ref (h.2.2 0 0)), (3, .int v3)]) hx hb dX4_mixBird_113 hl (k := 3) rfl rfl (by decide) rfl (fun ls hl => ?_)
      refine lv_goto (tgt := 92) hx hb dX4_mixBird_116 (by decide) ?_
      exact ih z8.1 (v7 + 1) z8.2 z hF _ _ _ hW hS (lv_sub hl [2, 3, 1, 0] rfl) kk
set_option maxHeartbeats 4000000 in
set_option maxRecDepth 100000 in
theorem lX4_mixBird_60 {p : Program} {l : Launch} {e : Env} {s : State} {m : MethodId} {args : Array Value} {below : List Frame} {meth : Method} {c : Code} {Q : State → Prop} {lo : Nat} {g : Gx} {h : Sh} (C0 : CallFix p m c cX4_mixBird 11 s args wB RX4) (hlo : lo ≤ s.heap.size) (hK : KW g s) (hZ : ZW lo s s.heap) (v3 : Int32) (j7 : Nat) (hj7 : j7 < h.2.1) : ∀ (n : Nat) (v4 : Int64) (v9 : Int32) (σ : Sg) (z : (Int64 × Sg)) (hF : LX4_mixBird_60 h.1 h.2.1 v3 j7 n v4 v9 σ = some z) (H : Heap) (locs : List Loc) (ls : Array Slot) (hW : FW g h (Ax lo) σ H) (hS : va_S (Ax lo) s.heap H locs) (hl : lv_has ls 11 [(0, .ref (h.2.2 0 0)), (3, .int v3), (4, .long v4), (7, .ref (h.2.2 8 j7)), (8, .int 6), (9, .int v9)]) (kk : ∀ (H : Heap) (locs : List Loc) (ls : Array Slot), FW g h (Ax lo) z.2 H → va_S (Ax lo) s.heap H locs → lv_has ls 11 [(0, .ref (h.2.2 0 0)), (3, .int v3), (4, .long z.1)] → W p l e { frames := 3, cells := 0, slots := 0, locals := 68 } s m args below meth c H locs 0 0 Q (F0 m 89 ls [])), W p l e { frames := 3, cells := 0, slots := 0, locals := 68 } s m args below meth c H locs 0 0 Q (F0 m 60 ls []) := by
  have hx := C0.1
  have hb := C0.2.1
  intro n
  induction n with
  | zero =>
    intro v4 v9 σ z hF
    rw [LX4_mixBird_60] at hF
    cases hF
  | succ n ih =>
    intro v4 v9 σ z hF H locs ls hW hS hl kk
    rw [LX4_mixBird_60] at hF
    refine lv_iload hx hb dX4_mixBird_60 (lv_at hl 5 rfl) ?_
    refine lv_iload hx hb dX4_mixBird_62 (lv_at hl 4 rfl) ?_
    refine lv_icmp_ge (tgt := 89) hx hb dX4_mixBird_64 (by decide) (fun c10 => ?_) (fun c10 => ?_)
    · rw [if_pos c10] at hF
      cases hF
      exact kk _ _ _ hW hS (lv_sub hl [0, 1, 2] rfl)
    · rw [if_neg c10] at hF
      refine lv_aload hx hb dX4_mixBird_67 (lv_at hl 3 rfl) ?_
      refine lv_iload hx hb dX4_mixBird_69 (lv_at hl 5 rfl) ?_
      obtain ⟨hg, hF⟩ := grd hF
      refine ald C0 hK hW 8 j7 (al6 8 hj7 (by decide)) (by decide) hg dX4_mixBird_71 ?_
      refine lv_istore (lv' := [(10, .int (σ.1 8 j7 v9.toNatClampNeg)), (0, .ref (h.2.2 0 0)), (3, .int v3), (4, .long v4), (7, .ref (h.2.2 8 j7)), (8, .int 6), (9, .int v9)]) hx hb dX4_mixBird_72 hl (by decide) rfl (fun ls hl => ?_)
      refine lv_lload hx hb dX4_mixBird_74 (lv_at hl 3 rfl) ?_
      refine lv_iload hx hb dX4_mixBird_76 (lv_at hl 0 rfl) ?_
      obtain ⟨z11, hz11, hF⟩ := bnd hF
      refine inL (runS C0 hlo hK hZ hW hS (kX4_mix l lo g h _ v4 (σ.1 8 j7 v9.toNatClampNeg)  _ _ hz11) wCO_X4_mix wML_X4_285 wST_X4_mix wIN_X4 hdsX4_mix ⟨Nat.le_of_ble_eq_true rfl, Nat.le_of_ble_eq_true rfl⟩ rfl hl.1 rfl (Nat.le_of_ble_eq_true rfl) dX4_mixBird_78 ⟨Nat.le_of_ble_eq_true rfl, Nat.le_of_ble_eq_true rfl⟩) hS (fun H locs hW hS => ?_)
      refine lv_lstore (lv' := [(4, .long z11.1), (10, .int (σ.1 8 j7 v9.toNatClampNeg)), (0, .ref (h.2.2 0 0)), (3, .int v3), (7, .ref (h.2.2 8 j7)), (8, .int 6), (9, .int v9)]) hx hb dX4_mixBird_81 hl (by decide) rfl (fun ls hl => ?_)
      refine lv_iinc (v := v9 + 1) (lv' := [(9, .int (v9 + 1)), (4, .long z11.1), (10, .int (σ.1 8 j7 v9.toNatClampNeg)), (0, .ref (h.2.2 0 0)), (3, .int v3), (7, .ref (h.2.2 8 j7)), (8, .int 6)]) hx hb dX4_mixBird_83 hl (k := 6) rfl rfl (by decide) rfl (fun ls hl => ?_)
      refine lv_goto (tgt := 60) hx hb dX4_mixBird_86 (by decide) ?_
      exact ih z11.1 (v9 + 1) z11.2 z hF _ _ _ hW hS (lv_sub hl [3, 4, 1, 5, 6, 0] rfl) kk
set_option maxHeartbeats 4000000 in
set_option maxRecDepth 100000 in
theorem kX4_mixBird (l : Launch) (lo : Nat) (g : Gx) (h : Sh) (σ : Sg) (a1 : Int64) (a3 : Int32)  (r : Int64) (σ1 : Sg) (hF : FX4_mixBird h.1 h.2.1 σ a1 a3 = some (r, σ1)) : ML l yX4_mixBird (ws_ yX4_mixBird cX4_mixBird 11 (some .long)) 3 68 0 0 lo g h [.ref (h.2.2 0 0), .long a1, .int a3] σ r σ1 := by
  refine ofB (own := RX4) (by decide +kernel) rfl (fun p e s m below meth c C0 hr hlk hlo hK hZ hW hS ls hl => ?_) (Nat.le_of_ble_eq_true rfl)
  have hx := C0.1
  have hb := C0.2.1
  have hl : lv_has ls 11 [(0, .ref (h.2.2 0 0)), (1, .long a1), (3, .int a3)] := hl
  unfold FX4_mixBird at hF
  refine lv_lload_n hx hb dX4_mixBird_0 rfl (lv_at hl 1 rfl) ?_
  refine lv_lstore (lv' := [(4, .long a1), (0, .ref (h.2.2 0 0)), (1, .long a1), (3, .int a3)]) hx hb dX4_mixBird_1 hl (by decide) rfl (fun ls hl => ?_)
  refine lv_iconst (v := 0) hx hb dX4_mixBird_3 (by decide) ?_
  refine lv_istore (lv' := [(6, .int 0), (4, .long a1), (0, .ref (h.2.2 0 0)), (1, .long a1), (3, .int a3)]) hx hb dX4_mixBird_4 hl (by decide) rfl (fun ls hl => ?_)
  obtain ⟨z4, hz4, hF⟩ := bnd hF
  refine lX4_mixBird_6 C0 hlo hK hZ a3  _ a1 0 _ z4 hz4 _ _ _ hW hS (lv_sub hl [2, 4, 1, 0] rfl) (fun H locs ls hW hS hl => ?_)
  refine lv_aload_n hx hb dX4_mixBird_33 rfl (lv_at hl 0 rfl) ?_
  refine lv_iload_n hx hb dX4_mixBird_34 rfl (lv_at hl 1 rfl) ?_
  obtain ⟨z5, hz5, hF⟩ := bnd hF
  refine inR (runV C0 hlo hK hZ hW hS (kX4_birdAt l lo g h _ a3  _ _ hz5) wCO_X4_birdAt wML_X4_122 wIM_X4_birdAt wSE_X4_X4_birdAt wIN_X4 hdX4_birdAt ⟨Nat.le_of_ble_eq_true rfl, Nat.le_of_ble_eq_true rfl⟩ (recvK hK hW (al0 h 0 (by decide)) (ct0 0) rfl) rfl hl.1 rfl (Nat.le_of_ble_eq_true rfl) dX4_mixBird_35 ⟨Nat.le_of_ble_eq_true rfl, Nat.le_of_ble_eq_true rfl⟩) hS (fun H locs hW hS => ?_)
  refine nspl (fun nz5 => ?_) (fun iz5 nz5 => ?_)
  · rw [nz5, oc_n] at hF
    refine lv_astoreN (lv' := [(6, .null), (0, .ref (h.2.2 0 0)), (3, .int a3), (4, .long z4.1)]) hx hb dX4_mixBird_38 hl (by decide) rfl (fun ls hl => ?_)
    refine lv_aloadN hx hb dX4_mixBird_40 (lv_at hl 0 rfl) ?_
    refine lv_ifnullN (tgt := 89) hx hb dX4_mixBird_42 (by decide) ?_
    refine lv_iconst (v := 0) hx hb dX4_mixBird_89 (by decide) ?_
    refine lv_istore (lv' := [(7, .int 0), (6, .null), (0, .ref (h.2.2 0 0)), (3, .int a3), (4, .long z4.1)]) hx hb dX4_mixBird_90 hl (by decide) rfl (fun ls hl => ?_)
    obtain ⟨z9, hz9, hF⟩ := bnd hF
    refine lX4_mixBird_92 C0 hlo hK hZ a3  _ z4.1 0 _ z9 hz9 _ _ _ hW hS (lv_sub hl [2, 3, 4, 0] rfl) (fun H locs ls hW hS hl => ?_)
    refine lv_lload hx hb dX4_mixBird_119 (lv_at hl 0 rfl) ?_
    cases hF
    exact retL C0 hr hlk hW hS dX4_mixBird_121
  · rw [nz5, oc_s] at hF
    obtain ⟨hiz5, hF⟩ := grp hF
    refine lv_astore (lv' := [(6, .ref (h.2.2 6 iz5)), (0, .ref (h.2.2 0 0)), (3, .int a3), (4, .long z4.1)]) hx hb dX4_mixBird_38 hl (by decide) rfl (fun ls hl => ?_)
    refine lv_aload hx hb dX4_mixBird_40 (lv_at hl 0 rfl) ?_
    refine lv_ifnull hx hb dX4_mixBird_42 ?_
    refine lv_aload hx hb dX4_mixBird_45 (lv_at hl 0 rfl) ?_
    refine get6 C0 hK hW iz5 (al6 6 hiz5 (by decide)) 6 (by decide) wFL_X4_161 rfl rfl dX4_mixBird_47 ?_
    refine lv_astore (lv' := [(7, .ref (h.2.2 8 iz5)), (6, .ref (h.2.2 6 iz5)), (0, .ref (h.2.2 0 0)), (3, .int a3), (4, .long z4.1)]) hx hb dX4_mixBird_50 hl (by decide) rfl (fun ls hl => ?_)
    refine lv_aload hx hb dX4_mixBird_52 (lv_at hl 0 rfl) ?_
    refine alen (v := 6) C0 hK hW 8 iz5 (al6 8 hiz5 (by decide)) (by decide) (by decide) dX4_mixBird_54 ?_
    refine lv_istore (lv' := [(8, .int 6), (7, .ref (h.2.2 8 iz5)), (6, .ref (h.2.2 6 iz5)), (0, .ref (h.2.2 0 0)), (3, .int a3), (4, .long z4.1)]) hx hb dX4_mixBird_55 hl (by decide) rfl (fun ls hl => ?_)
    refine lv_iconst (v := 0) hx hb dX4_mixBird_57 (by decide) ?_
    refine lv_istore (lv' := [(9, .int 0), (8, .int 6), (7, .ref (h.2.2 8 iz5)), (6, .ref (h.2.2 6 iz5)), (0, .ref (h.2.2 0 0)), (3, .int a3), (4, .long z4.1)]) hx hb dX4_mixBird_58 hl (by decide) rfl (fun ls hl => ?_)
    obtain ⟨z12, hz12, hF⟩ := bnd hF
    refine lX4_mixBird_60 C0 hlo hK hZ a3 iz5 hiz5 _ z4.1 0 _ z12 hz12 _ _ _ hW hS (lv_sub hl [4, 5, 6, 2, 1, 0] rfl) (fun H locs ls hW hS hl => ?_)
    refine lv_iconst (v := 0) hx hb dX4_mixBird_89 (by decide) ?_
    refine lv_istore (lv' := [(7, .int 0), (0, .ref (h.2.2 0 0)), (3, .int a3), (4, .long z12.1)]) hx hb dX4_mixBird_90 hl (by decide) rfl (fun ls hl => ?_)
    obtain ⟨z13, hz13, hF⟩ := bnd hF
    refine lX4_mixBird_92 C0 hlo hK hZ a3  _ z12.1 0 _ z13 hz13 _ _ _ hW hS (lv_sub hl [1, 2, 3, 0] rfl) (fun H locs ls hW hS hl => ?_)
    refine lv_lload hx hb dX4_mixBird_119 (lv_at hl 0 rfl) ?_
    cases hF
    exact retL C0 hr hlk hW hS dX4_mixBird_121
theorem hdX4_digest : yX4_digest.cls = RX4 ∧ yX4_digest.cls ≠ "java/lang/invoke/MethodHandle" ∧ yX4_digest.cls ≠ "java/lang/invoke/VarHandle" ∧ (parseMethodDescriptor yX4_digest.desc).map (fun d => d.parameters.length) = some 0 := by decide +kernel
def LX4_digest_6 (ns nb : Nat) : Nat → Int64 → Int32 → Sg → Option (Int64 × Sg)
  | 0, _, _, _ => none
  | n + 1, v1, v3, σ => if 6 ≤ v3 then (some (v1, σ)) else ((FX4_count ns nb σ v3).bind fun z2 => oe z2.1 fun rz2 => (FX4_mix ns nb z2.2 v1 rz2).bind fun z3 => LX4_digest_6 ns nb  n z3.1 (v3 + 1) z3.2)
def LX4_digest_41 (ns nb : Nat) (v3 : Int32) : Nat → Int64 → Int32 → Sg → Option (Int64 × Sg)
  | 0, _, _, _ => none
  | n + 1, v1, v4, σ => if 7 ≤ v4 then (some (v1, σ)) else ((FX4_spring ns nb σ v3 v4).bind fun z7 => oe z7.1 fun rz7 => (FX4_mix ns nb z7.2 v1 rz7).bind fun z8 => LX4_digest_41 ns nb v3 n z8.1 (v4 + 1) z8.2)
def LX4_digest_30 (ns nb : Nat) : Nat → Int64 → Int32 → Sg → Option (Int64 × Sg)
  | 0, _, _, _ => none
  | n + 1, v1, v3, σ => if (σ.1 0 0 3) ≤ v3 then (some (v1, σ)) else ((LX4_digest_41 ns nb v3 4100 v1 0 σ).bind fun z9 => LX4_digest_30 ns nb  n z9.1 (v3 + 1) z9.2)
def LX4_digest_74 (ns nb : Nat) : Nat → Int64 → Int32 → Sg → Option (Int64 × Sg)
  | 0, _, _, _ => none
  | n + 1, v1, v3, σ => if (σ.1 0 0 4) ≤ v3 then (some (v1, σ)) else ((FX4_mixBird ns nb σ v1 v3).bind fun z12 => LX4_digest_74 ns nb  n z12.1 (v3 + 1) z12.2)
def LX4_digest_111 (ns nb : Nat) (v3 : Int32) : Nat → Int64 → Int32 → Sg → Option (Int64 × Sg)
  | 0, _, _, _ => none
  | n + 1, v1, v4, σ => if 4 ≤ v4 then (some (v1, σ)) else ((FX4_sung ns nb σ v3 v4).bind fun z16 => oe z16.1 fun rz16 => (FX4_mix ns nb z16.2 v1 rz16).bind fun z17 => LX4_digest_111 ns nb v3 n z17.1 (v4 + 1) z17.2)
def LX4_digest_97 (ns nb : Nat) : Nat → Int64 → Int32 → Sg → Option (Int64 × Sg)
  | 0, _, _, _ => none
  | n + 1, v1, v3, σ => if (σ.1 3 0 1) ≤ v3 then (some (v1, σ)) else ((LX4_digest_111 ns nb v3 4100 v1 0 σ).bind fun z18 => LX4_digest_97 ns nb  n z18.1 (v3 + 1) z18.2)
def FX4_digest (ns nb : Nat) (σ : Sg)  : Option (Int64 × Sg) :=
  (LX4_digest_6 ns nb  4100 449 0 σ).bind fun z4 => (LX4_digest_30 ns nb  4100 z4.1 0 z4.2).bind fun z10 => (LX4_digest_74 ns nb  4100 z10.1 0 z10.2).bind fun z13 => (LX4_digest_97 ns nb  4100 z13.1 0 z13.2).bind fun z19 => some (z19.1, z19.2)
set_option maxHeartbeats 4000000 in
set_option maxRecDepth 100000 in
theorem lX4_digest_6 {p : Program} {l : Launch} {e : Env} {s : State} {m : MethodId} {args : Array Value} {below : List Frame} {meth : Method} {c : Code} {Q : State → Prop} {lo : Nat} {g : Gx} {h : Sh} (C0 : CallFix p m c cX4_digest 5 s args wB RX4) (hlo : lo ≤ s.heap.size) (hK : KW g s) (hZ : ZW lo s s.heap)   : ∀ (n : Nat) (v1 : Int64) (v3 : Int32) (σ : Sg) (z : (Int64 × Sg)) (hF : LX4_digest_6 h.1 h.2.1  n v1 v3 σ = some z) (H : Heap) (locs : List Loc) (ls : Array Slot) (hW : FW g h (Ax lo) σ H) (hS : va_S (Ax lo) s.heap H locs) (hl : lv_has ls 5 [(0, .ref (h.2.2 0 0)), (1, .long v1), (3, .int v3)]) (kk : ∀ (H : Heap) (locs : List Loc) (ls : Array Slot), FW g h (Ax lo) z.2 H → va_S (Ax lo) s.heap H locs → lv_has ls 5 [(0, .ref (h.2.2 0 0)), (1, .long z.1)] → W p l e { frames := 5, cells := 0, slots := 0, locals := 117 } s m args below meth c H locs 0 0 Q (F0 m 28 ls [])), W p l e { frames := 5, cells := 0, slots := 0, locals := 117 } s m args below meth c H locs 0 0 Q (F0 m 6 ls []) := by
  have hx := C0.1
  have hb := C0.2.1
  intro n
  induction n with
  | zero =>
    intro v1 v3 σ z hF
    rw [LX4_digest_6] at hF
    cases hF
  | succ n ih =>
    intro v1 v3 σ z hF H locs ls hW hS hl kk
    rw [LX4_digest_6] at hF
    refine lv_iload_n hx hb dX4_digest_6 rfl (lv_at hl 2 rfl) ?_
    refine lv_bipush (v := 6) hx hb dX4_digest_7 (by decide) ?_
    refine lv_icmp_ge (tgt := 28) hx hb dX4_digest_9 (by decide) (fun c1 => ?_) (fun c1 => ?_)
    · rw [if_pos c1] at hF
      cases hF
      exact kk _ _ _ hW hS (lv_sub hl [0, 1] rfl)
    · rw [if_neg c1] at hF
      refine lv_lload_n hx hb dX4_digest_12 rfl (lv_at hl 1 rfl) ?_
      refine lv_aload_n hx hb dX4_digest_13 rfl (lv_at hl 0 rfl) ?_
      refine lv_iload_n hx hb dX4_digest_14 rfl (lv_at hl 2 rfl) ?_
      obtain ⟨z2, hz2, hF⟩ := bnd hF
      obtain ⟨rz2, ez2, hF⟩ := oeD hF
      have hz2 := hz2.trans (show some z2 = some (.inr rz2, z2.2) by rw [← ez2])
      refine inI (runV C0 hlo hK hZ hW hS (nX4_count l lo g h _ v3  _ _ hz2) wCO_X4_count wML_X4_282 wIM_X4_count wSE_X4_X4_count wIN_X4 hdX4_count ⟨Nat.le_of_ble_eq_true rfl, Nat.le_of_ble_eq_true rfl⟩ (recvK hK hW (al0 h 0 (by decide)) (ct0 0) rfl) rfl hl.1 rfl (Nat.le_of_ble_eq_true rfl) dX4_digest_15 ⟨Nat.le_of_ble_eq_true rfl, Nat.le_of_ble_eq_true rfl⟩) hS (fun H locs hW hS => ?_)
      obtain ⟨z3, hz3, hF⟩ := bnd hF
      refine inL (runS C0 hlo hK hZ hW hS (kX4_mix l lo g h _ v1 rz2  _ _ hz3) wCO_X4_mix wML_X4_285 wST_X4_mix wIN_X4 hdsX4_mix ⟨Nat.le_of_ble_eq_true rfl, Nat.le_of_ble_eq_true rfl⟩ rfl hl.1 rfl (Nat.le_of_ble_eq_true rfl) dX4_digest_18 ⟨Nat.le_of_ble_eq_true rfl, Nat.le_of_ble_eq_true rfl⟩) hS (fun H locs hW hS => ?_)
      refine lv_lstore_n (lv' := [(1, .long z3.1), (0, .ref (h.2.2 0 0)), (3, .int v3)]) hx hb dX4_digest_21 rfl hl (by decide) rfl (fun ls hl => ?_)
      refine lv_iinc (v := v3 + 1) (lv' := [(3, .int (v3 + 1)), (1, .long z3.1), (0, .ref (h.2.2 0 0))]) hx hb dX4_digest_22 hl (k := 2) rfl rfl (by decide) rfl (fun ls hl => ?_)
      refine lv_goto (tgt := 6) hx hb dX4_digest_25 (by decide) ?_
      exact ih z3.1 (v3 + 1) z3.2 z hF _ _ _ hW hS (lv_sub hl [2, 1, 0] rfl) kk
set_option maxHeartbeats 4000000 in
set_option maxRecDepth 100000 in
theorem lX4_digest_41 {p : Program} {l : Launch} {e : Env} {s : State} {m : MethodId} {args : Array Value} {below : List Frame} {meth : Method} {c : Code} {Q : State → Prop} {lo : Nat} {g : Gx} {h : Sh} (C0 : CallFix p m c cX4_digest 5 s args wB RX4) (hlo : lo ≤ s.heap.size) (hK : KW g s) (hZ : ZW lo s s.heap) (v3 : Int32)  : ∀ (n : Nat) (v1 : Int64) (v4 : Int32) (σ : Sg) (z : (Int64 × Sg)) (hF : LX4_digest_41 h.1 h.2.1 v3 n v1 v4 σ = some z) (H : Heap) (locs : List Loc) (ls : Array Slot) (hW : FW g h (Ax lo) σ H) (hS : va_S (Ax lo) s.heap H locs) (hl : lv_has ls 5 [(0, .ref (h.2.2 0 0)), (1, .long v1), (3, .int v3), (4, .int v4)]) (kk : ∀ (H : Heap) (locs : List Loc) (ls : Array Slot), FW g h (Ax lo) z.2 H → va_S (Ax lo) s.heap H locs → lv_has ls 5 [(0, .ref (h.2.2 0 0)), (1, .long z.1), (3, .int v3)] → W p l e { frames := 5, cells := 0, slots := 0, locals := 117 } s m args below meth c H locs 0 0 Q (F0 m 66 ls [])), W p l e { frames := 5, cells := 0, slots := 0, locals := 117 } s m args below meth c H locs 0 0 Q (F0 m 41 ls []) := by
  have hx := C0.1
  have hb := C0.2.1
  intro n
  induction n with
  | zero =>
    intro v1 v4 σ z hF
    rw [LX4_digest_41] at hF
    cases hF
  | succ n ih =>
    intro v1 v4 σ z hF H locs ls hW hS hl kk
    rw [LX4_digest_41] at hF
    refine lv_iload hx hb dX4_digest_41 (lv_at hl 3 rfl) ?_
    refine lv_bipush (v := 7) hx hb dX4_digest_43 (by decide) ?_
    refine lv_icmp_ge (tgt := 66) hx hb dX4_digest_45 (by decide) (fun c6 => ?_) (fun c6 => ?_)
    · rw [if_pos c6] at hF
      cases hF
      exact kk _ _ _ hW hS (lv_sub hl [0, 1, 2] rfl)
    · rw [if_neg c6] at hF
      refine lv_lload_n hx hb dX4_digest_48 rfl (lv_at hl 1 rfl) ?_
      refine lv_aload_n hx hb dX4_digest_49 rfl (lv_at hl 0 rfl) ?_
      refine lv_iload_n hx hb dX4_digest_50 rfl (lv_at hl 2 rfl) ?_
      refine lv_iload hx hb dX4_digest_51 (lv_at hl 3 rfl) ?_
      obtain ⟨z7, hz7, hF⟩ := bnd hF
      obtain ⟨rz7, ez7, hF⟩ := oeD hF
      have hz7 := hz7.trans (show some z7 = some (.inr rz7, z7.2) by rw [← ez7])
      refine inI (runV C0 hlo hK hZ hW hS (nX4_spring l lo g h _ v3 v4  _ _ hz7) wCO_X4_spring wML_X4_289 wIM_X4_spring wSE_X4_X4_spring wIN_X4 hdX4_spring ⟨Nat.le_of_ble_eq_true rfl, Nat.le_of_ble_eq_true rfl⟩ (recvK hK hW (al0 h 0 (by decide)) (ct0 0) rfl) rfl hl.1 rfl (Nat.le_of_ble_eq_true rfl) dX4_digest_53 ⟨Nat.le_of_ble_eq_true rfl, Nat.le_of_ble_eq_true rfl⟩) hS (fun H locs hW hS => ?_)
      obtain ⟨z8, hz8, hF⟩ := bnd hF
      refine inL (runS C0 hlo hK hZ hW hS (kX4_mix l lo g h _ v1 rz7  _ _ hz8) wCO_X4_mix wML_X4_285 wST_X4_mix wIN_X4 hdsX4_mix ⟨Nat.le_of_ble_eq_true rfl, Nat.le_of_ble_eq_true rfl⟩ rfl hl.1 rfl (Nat.le_of_ble_eq_true rfl) dX4_digest_56 ⟨Nat.le_of_ble_eq_true rfl, Nat.le_of_ble_eq_true rfl⟩) hS (fun H locs hW hS => ?_)
      refine lv_lstore_n (lv' := [(1, .long z8.1), (0, .ref (h.2.2 0 0)), (3, .int v3), (4, .int v4)]) hx hb dX4_digest_59 rfl hl (by decide) rfl (fun ls hl => ?_)
      refine lv_iinc (v := v4 + 1) (lv' := [(4, .int (v4 + 1)), (1, .long z8.1), (0, .ref (h.2.2 0 0)), (3, .int v3)]) hx hb dX4_digest_60 hl (k := 3) rfl rfl (by decide) rfl (fun ls hl => ?_)
      refine lv_goto (tgt := 41) hx hb dX4_digest_63 (by decide) ?_
      exact ih z8.1 (v4 + 1) z8.2 z hF _ _ _ hW hS (lv_sub hl [2, 1, 3, 0] rfl) kk
set_option maxHeartbeats 4000000 in
set_option maxRecDepth 100000 in
theorem lX4_digest_30 {p : Program} {l : Launch} {e : Env} {s : State} {m : MethodId} {args : Array Value} {below : List Frame} {meth : Method} {c : Code} {Q : State → Prop} {lo : Nat} {g : Gx} {h : Sh} (C0 : CallFix p m c cX4_digest 5 s args wB RX4) (hlo : lo ≤ s.heap.size) (hK : KW g s) (hZ : ZW lo s s.heap)   : ∀ (n : Nat) (v1 : Int64) (v3 : Int32) (σ : Sg) (z : (Int64 × Sg)) (hF : LX4_digest_30 h.1 h.2.1  n v1 v3 σ = some z) (H : Heap) (locs : List Loc) (ls : Array Slot) (hW : FW g h (Ax lo) σ H) (hS : va_S (Ax lo) s.heap H locs) (hl : lv_has ls 5 [(0, .ref (h.2.2 0 0)), (1, .long v1), (3, .int v3)]) (kk : ∀ (H : Heap) (locs : List Loc) (ls : Array Slot), FW g h (Ax lo) z.2 H → va_S (Ax lo) s.heap H locs → lv_has ls 5 [(0, .ref (h.2.2 0 0)), (1, .long z.1)] → W p l e { frames := 5, cells := 0, slots := 0, locals := 117 } s m args below meth c H locs 0 0 Q (F0 m 72 ls [])), W p l e { frames := 5, cells := 0, slots := 0, locals := 117 } s m args below meth c H locs 0 0 Q (F0 m 30 ls []) := by
  have hx := C0.1
  have hb := C0.2.1
  intro n
  induction n with
  | zero =>
    intro v1 v3 σ z hF
    rw [LX4_digest_30] at hF
    cases hF
  | succ n ih =>
    intro v1 v3 σ z hF H locs ls hW hS hl kk
    rw [LX4_digest_30] at hF
    refine lv_iload_n hx hb dX4_digest_30 rfl (lv_at hl 2 rfl) ?_
    refine lv_aload_n hx hb dX4_digest_31 rfl (lv_at hl 0 rfl) ?_
    refine get0 C0 hK hW 0 (al0 h 0 (by decide)) 3 (by decide) wFL_X4_39 rfl rfl dX4_digest_32 ?_
    refine lv_icmp_ge (tgt := 72) hx hb dX4_digest_35 (by decide) (fun c5 => ?_) (fun c5 => ?_)
    · rw [if_pos c5] at hF
      cases hF
      exact kk _ _ _ hW hS (lv_sub hl [0, 1] rfl)
    · rw [if_neg c5] at hF
      refine lv_iconst (v := 0) hx hb dX4_digest_38 (by decide) ?_
      refine lv_istore (lv' := [(4, .int 0), (0, .ref (h.2.2 0 0)), (1, .long v1), (3, .int v3)]) hx hb dX4_digest_39 hl (by decide) rfl (fun ls hl => ?_)
      obtain ⟨z9, hz9, hF⟩ := bnd hF
      refine lX4_digest_41 C0 hlo hK hZ v3  _ v1 0 _ z9 hz9 _ _ _ hW hS (lv_sub hl [1, 2, 3, 0] rfl) (fun H locs ls hW hS hl => ?_)
      refine lv_iinc (v := v3 + 1) (lv' := [(3, .int (v3 + 1)), (0, .ref (h.2.2 0 0)), (1, .long z9.1)]) hx hb dX4_digest_66 hl (k := 2) rfl rfl (by decide) rfl (fun ls hl => ?_)
      refine lv_goto (tgt := 30) hx hb dX4_digest_69 (by decide) ?_
      exact ih z9.1 (v3 + 1) z9.2 z hF _ _ _ hW hS (lv_sub hl [1, 2, 0] rfl) kk
set_option maxHeartbeats 4000000 in
set_option maxRecDepth 100000 in
theorem lX4_digest_74 {p : Program} {l : Launch} {e : Env} {s : State} {m : MethodId} {args : Array Value} {below : List Frame} {meth : Method} {c : Code} {Q : State → Prop} {lo : Nat} {g : Gx} {h : Sh} (C0 : CallFix p m c cX4_digest 5 s args wB RX4) (hlo : lo ≤ s.heap.size) (hK : KW g s) (hZ : ZW lo s s.heap)   : ∀ (n : Nat) (v1 : Int64) (v3 : Int32) (σ : Sg) (z : (Int64 × Sg)) (hF : LX4_digest_74 h.1 h.2.1  n v1 v3 σ = some z) (H : Heap) (locs : List Loc) (ls : Array Slot) (hW : FW g h (Ax lo) σ H) (hS : va_S (Ax lo) s.heap H locs) (hl : lv_has ls 5 [(0, .ref (h.2.2 0 0)), (1, .long v1), (3, .int v3)]) (kk : ∀ (H : Heap) (locs : List Loc) (ls : Array Slot), FW g h (Ax lo) z.2 H → va_S (Ax lo) s.heap H locs → lv_has ls 5 [(0, .ref (h.2.2 0 0)), (1, .long z.1)] → W p l e { frames := 5, cells := 0, slots := 0, locals := 117 } s m args below meth c H locs 0 0 Q (F0 m 95 ls [])), W p l e { frames := 5, cells := 0, slots := 0, locals := 117 } s m args below meth c H locs 0 0 Q (F0 m 74 ls []) := by
  have hx := C0.1
  have hb := C0.2.1
  intro n
  induction n with
  | zero =>
    intro v1 v3 σ z hF
    rw [LX4_digest_74] at hF
    cases hF
  | succ n ih =>
    intro v1 v3 σ z hF H locs ls hW hS hl kk
    rw [LX4_digest_74] at hF
    refine lv_iload_n hx hb dX4_digest_74 rfl (lv_at hl 2 rfl) ?_
    refine lv_aload_n hx hb dX4_digest_75 rfl (lv_at hl 0 rfl) ?_
    refine get0 C0 hK hW 0 (al0 h 0 (by decide)) 4 (by decide) wFL_X4_114 rfl rfl dX4_digest_76 ?_
    refine lv_icmp_ge (tgt := 95) hx hb dX4_digest_79 (by decide) (fun c11 => ?_) (fun c11 => ?_)
    · rw [if_pos c11] at hF
      cases hF
      exact kk _ _ _ hW hS (lv_sub hl [0, 1] rfl)
    · rw [if_neg c11] at hF
      refine lv_aload_n hx hb dX4_digest_82 rfl (lv_at hl 0 rfl) ?_
      refine lv_lload_n hx hb dX4_digest_83 rfl (lv_at hl 1 rfl) ?_
      refine lv_iload_n hx hb dX4_digest_84 rfl (lv_at hl 2 rfl) ?_
      obtain ⟨z12, hz12, hF⟩ := bnd hF
      refine inL (runV C0 hlo hK hZ hW hS (kX4_mixBird l lo g h _ v1 v3  _ _ hz12) wCO_X4_mixBird wML_X4_291 wIM_X4_mixBird wSE_X4_X4_mixBird wIN_X4 hdX4_mixBird ⟨Nat.le_of_ble_eq_true rfl, Nat.le_of_ble_eq_true rfl⟩ (recvK hK hW (al0 h 0 (by decide)) (ct0 0) rfl) rfl hl.1 rfl (Nat.le_of_ble_eq_true rfl) dX4_digest_85 ⟨Nat.le_of_ble_eq_true rfl, Nat.le_of_ble_eq_true rfl⟩) hS (fun H locs hW hS => ?_)
      refine lv_lstore_n (lv' := [(1, .long z12.1), (0, .ref (h.2.2 0 0)), (3, .int v3)]) hx hb dX4_digest_88 rfl hl (by decide) rfl (fun ls hl => ?_)
      refine lv_iinc (v := v3 + 1) (lv' := [(3, .int (v3 + 1)), (1, .long z12.1), (0, .ref (h.2.2 0 0))]) hx hb dX4_digest_89 hl (k := 2) rfl rfl (by decide) rfl (fun ls hl => ?_)
      refine lv_goto (tgt := 74) hx hb dX4_digest_92 (by decide) ?_
      exact ih z12.1 (v3 + 1) z12.2 z hF _ _ _ hW hS (lv_sub hl [2, 1, 0] rfl) kk
set_option maxHeartbeats 4000000 in
set_option maxRecDepth 100000 in
theorem lX4_digest_111 {p : Program} {l : Launch} {e : Env} {s : State} {m : MethodId} {args : Array Value} {below : List Frame} {meth : Method} {c : Code} {Q : State → Prop} {lo : Nat} {g : Gx} {h : Sh} (C0 : CallFix p m c cX4_digest 5 s args wB RX4) (hlo : lo ≤ s.heap.size) (hK : KW g s) (hZ : ZW lo s s.heap) (v3 : Int32)  : ∀ (n : Nat) (v1 : Int64) (v4 : Int32) (σ : Sg) (z : (Int64 × Sg)) (hF : LX4_digest_111 h.1 h.2.1 v3 n v1 v4 σ = some z) (H : Heap) (locs : List Loc) (ls : Array Slot) (hW : FW g h (Ax lo) σ H) (hS : va_S (Ax lo) s.heap H locs) (hl : lv_has ls 5 [(0, .ref (h.2.2 0 0)), (1, .long v1), (3, .int v3), (4, .int v4)]) (kk : ∀ (H : Heap) (locs : List Loc) (ls : Array Slot), FW g h (Ax lo) z.2 H → va_S (Ax lo) s.heap H locs → lv_has ls 5 [(0, .ref (h.2.2 0 0)), (1, .long z.1), (3, .int v3)] → W p l e { frames := 5, cells := 0, slots := 0, locals := 117 } s m args below meth c H locs 0 0 Q (F0 m 135 ls [])), W p l e { frames := 5, cells := 0, slots := 0, locals := 117 } s m args below meth c H locs 0 0 Q (F0 m 111 ls []) := by
  have hx := C0.1
  have hb := C0.2.1
  intro n
  induction n with
  | zero =>
    intro v1 v4 σ z hF
    rw [LX4_digest_111] at hF
    cases hF
  | succ n ih =>
    intro v1 v4 σ z hF H locs ls hW hS hl kk
    rw [LX4_digest_111] at hF
    refine lv_iload hx hb dX4_digest_111 (lv_at hl 3 rfl) ?_
    refine lv_iconst (v := 4) hx hb dX4_digest_113 (by decide) ?_
    refine lv_icmp_ge (tgt := 135) hx hb dX4_digest_114 (by decide) (fun c15 => ?_) (fun c15 => ?_)
    · rw [if_pos c15] at hF
      cases hF
      exact kk _ _ _ hW hS (lv_sub hl [0, 1, 2] rfl)
    · rw [if_neg c15] at hF
      refine lv_lload_n hx hb dX4_digest_117 rfl (lv_at hl 1 rfl) ?_
      refine lv_aload_n hx hb dX4_digest_118 rfl (lv_at hl 0 rfl) ?_
      refine lv_iload_n hx hb dX4_digest_119 rfl (lv_at hl 2 rfl) ?_
      refine lv_iload hx hb dX4_digest_120 (lv_at hl 3 rfl) ?_
      obtain ⟨z16, hz16, hF⟩ := bnd hF
      obtain ⟨rz16, ez16, hF⟩ := oeD hF
      have hz16 := hz16.trans (show some z16 = some (.inr rz16, z16.2) by rw [← ez16])
      refine inI (runV C0 hlo hK hZ hW hS (nX4_sung l lo g h _ v3 v4  _ _ hz16) wCO_X4_sung wML_X4_294 wIM_X4_sung wSE_X4_X4_sung wIN_X4 hdX4_sung ⟨Nat.le_of_ble_eq_true rfl, Nat.le_of_ble_eq_true rfl⟩ (recvK hK hW (al0 h 0 (by decide)) (ct0 0) rfl) rfl hl.1 rfl (Nat.le_of_ble_eq_true rfl) dX4_digest_122 ⟨Nat.le_of_ble_eq_true rfl, Nat.le_of_ble_eq_true rfl⟩) hS (fun H locs hW hS => ?_)
      obtain ⟨z17, hz17, hF⟩ := bnd hF
      refine inL (runS C0 hlo hK hZ hW hS (kX4_mix l lo g h _ v1 rz16  _ _ hz17) wCO_X4_mix wML_X4_285 wST_X4_mix wIN_X4 hdsX4_mix ⟨Nat.le_of_ble_eq_true rfl, Nat.le_of_ble_eq_true rfl⟩ rfl hl.1 rfl (Nat.le_of_ble_eq_true rfl) dX4_digest_125 ⟨Nat.le_of_ble_eq_true rfl, Nat.le_of_ble_eq_true rfl⟩) hS (fun H locs hW hS => ?_)
      refine lv_lstore_n (lv' := [(1, .long z17.1), (0, .ref (h.2.2 0 0)), (3, .int v3), (4, .int v4)]) hx hb dX4_digest_128 rfl hl (by decide) rfl (fun ls hl => ?_)
      refine lv_iinc (v := v4 + 1) (lv' := [(4, .int (v4 + 1)), (1, .long z17.1), (0, .ref (h.2.2 0 0)), (3, .int v3)]) hx hb dX4_digest_129 hl (k := 3) rfl rfl (by decide) rfl (fun ls hl => ?_)
      refine lv_goto (tgt := 111) hx hb dX4_digest_132 (by decide) ?_
      exact ih z17.1 (v4 + 1) z17.2 z hF _ _ _ hW hS (lv_sub hl [2, 1, 3, 0] rfl) kk
set_option maxHeartbeats 4000000 in
set_option maxRecDepth 100000 in
theorem lX4_digest_97 {p : Program} {l : Launch} {e : Env} {s : State} {m : MethodId} {args : Array Value} {below : List Frame} {meth : Method} {c : Code} {Q : State → Prop} {lo : Nat} {g : Gx} {h : Sh} (C0 : CallFix p m c cX4_digest 5 s args wB RX4) (hlo : lo ≤ s.heap.size) (hK : KW g s) (hZ : ZW lo s s.heap)   : ∀ (n : Nat) (v1 : Int64) (v3 : Int32) (σ : Sg) (z : (Int64 × Sg)) (hF : LX4_digest_97 h.1 h.2.1  n v1 v3 σ = some z) (H : Heap) (locs : List Loc) (ls : Array Slot) (hW : FW g h (Ax lo) σ H) (hS : va_S (Ax lo) s.heap H locs) (hl : lv_has ls 5 [(0, .ref (h.2.2 0 0)), (1, .long v1), (3, .int v3)]) (kk : ∀ (H : Heap) (locs : List Loc) (ls : Array Slot), FW g h (Ax lo) z.2 H → va_S (Ax lo) s.heap H locs → lv_has ls 5 [(1, .long z.1)] → W p l e { frames := 5, cells := 0, slots := 0, locals := 117 } s m args below meth c H locs 0 0 Q (F0 m 141 ls [])), W p l e { frames := 5, cells := 0, slots := 0, locals := 117 } s m args below meth c H locs 0 0 Q (F0 m 97 ls []) := by
  have hx := C0.1
  have hb := C0.2.1
  intro n
  induction n with
  | zero =>
    intro v1 v3 σ z hF
    rw [LX4_digest_97] at hF
    cases hF
  | succ n ih =>
    intro v1 v3 σ z hF H locs ls hW hS hl kk
    rw [LX4_digest_97] at hF
    refine lv_iload_n hx hb dX4_digest_97 rfl (lv_at hl 2 rfl) ?_
    refine lv_aload_n hx hb dX4_digest_98 rfl (lv_at hl 0 rfl) ?_
    refine get0 C0 hK hW 0 (al0 h 0 (by decide)) 2 (by decide) wFL_X4_24 rfl rfl dX4_digest_99 ?_
    refine get3 C0 hK hW 0 (al0 h 3 (by decide)) 1 (by decide) wFL_X4_245 rfl rfl dX4_digest_102 ?_
    refine lv_icmp_ge (tgt := 141) hx hb dX4_digest_105 (by decide) (fun c14 => ?_) (fun c14 => ?_)
    · rw [if_pos c14] at hF
      cases hF
      exact kk _ _ _ hW hS (lv_sub hl [1] rfl)
    · rw [if_neg c14] at hF
      refine lv_iconst (v := 0) hx hb dX4_digest_108 (by decide) ?_
      refine lv_istore (lv' := [(4, .int 0), (0, .ref (h.2.2 0 0)), (1, .long v1), (3, .int v3)]) hx hb dX4_digest_109 hl (by decide) rfl (fun ls hl => ?_)
      obtain ⟨z18, hz18, hF⟩ := bnd hF
      refine lX4_digest_111 C0 hlo hK hZ v3  _ v1 0 _ z18 hz18 _ _ _ hW hS (lv_sub hl [1, 2, 3, 0] rfl) (fun H locs ls hW hS hl => ?_)
      refine lv_iinc (v := v3 + 1) (lv' := [(3, .int (v3 + 1)), (0, .ref (h.2.2 0 0)), (1, .long z18.1)]) hx hb dX4_digest_135 hl (k := 2) rfl rfl (by decide) rfl (fun ls hl => ?_)
      refine lv_goto (tgt := 97) hx hb dX4_digest_138 (by decide) ?_
      exact ih z18.1 (v3 + 1) z18.2 z hF _ _ _ hW hS (lv_sub hl [1, 2, 0] rfl) kk
set_option maxHeartbeats 4000000 in
set_option maxRecDepth 100000 in
theorem kX4_digest (l : Launch) (lo : Nat) (g : Gx) (h : Sh) (σ : Sg)   (r : Int64) (σ1 : Sg) (hF : FX4_digest h.1 h.2.1 σ  = some (r, σ1)) : ML l yX4_digest (ws_ yX4_digest cX4_digest 5 (some .long)) 5 117 0 0 lo g h [.ref (h.2.2 0 0)] σ r σ1 := by
  refine ofB (own := RX4) (by decide +kernel) rfl (fun p e s m below meth c C0 hr hlk hlo hK hZ hW hS ls hl => ?_) (Nat.le_of_ble_eq_true rfl)
  have hx := C0.1
  have hb := C0.2.1
  have hl : lv_has ls 5 [(0, .ref (h.2.2 0 0))] := hl
  unfold FX4_digest at hF
  refine lv_ldc2 hx hb C0.2.2.2.1 (C0.2.2.2.2 _ wconstantLong_X4_280) dX4_digest_0 ?_
  refine lv_lstore_n (lv' := [(1, .long 449), (0, .ref (h.2.2 0 0))]) hx hb dX4_digest_3 rfl hl (by decide) rfl (fun ls hl => ?_)
  refine lv_iconst (v := 0) hx hb dX4_digest_4 (by decide) ?_
  refine lv_istore_n (lv' := [(3, .int 0), (1, .long 449), (0, .ref (h.2.2 0 0))]) hx hb dX4_digest_5 rfl hl (by decide) rfl (fun ls hl => ?_)
  obtain ⟨z4, hz4, hF⟩ := bnd hF
  refine lX4_digest_6 C0 hlo hK hZ   _ 449 0 _ z4 hz4 _ _ _ hW hS (lv_sub hl [2, 1, 0] rfl) (fun H locs ls hW hS hl => ?_)
  refine lv_iconst (v := 0) hx hb dX4_digest_28 (by decide) ?_
  refine lv_istore_n (lv' := [(3, .int 0), (0, .ref (h.2.2 0 0)), (1, .long z4.1)]) hx hb dX4_digest_29 rfl hl (by decide) rfl (fun ls hl => ?_)
  obtain ⟨z10, hz10, hF⟩ := bnd hF
  refine lX4_digest_30 C0 hlo hK hZ   _ z4.1 0 _ z10 hz10 _ _ _ hW hS (lv_sub hl [1, 2, 0] rfl) (fun H locs ls hW hS hl => ?_)
  refine lv_iconst (v := 0) hx hb dX4_digest_72 (by decide) ?_
  refine lv_istore_n (lv' := [(3, .int 0), (0, .ref (h.2.2 0 0)), (1, .long z10.1)]) hx hb dX4_digest_73 rfl hl (by decide) rfl (fun ls hl => ?_)
  obtain ⟨z13, hz13, hF⟩ := bnd hF
  refine lX4_digest_74 C0 hlo hK hZ   _ z10.1 0 _ z13 hz13 _ _ _ hW hS (lv_sub hl [1, 2, 0] rfl) (fun H locs ls hW hS hl => ?_)
  refine lv_iconst (v := 0) hx hb dX4_digest_95 (by decide) ?_
  refine lv_istore_n (lv' := [(3, .int 0), (0, .ref (h.2.2 0 0)), (1, .long z13.1)]) hx hb dX4_digest_96 rfl hl (by decide) rfl (fun ls hl => ?_)
  obtain ⟨z19, hz19, hF⟩ := bnd hF
  refine lX4_digest_97 C0 hlo hK hZ   _ z13.1 0 _ z19 hz19 _ _ _ hW hS (lv_sub hl [1, 2, 0] rfl) (fun H locs ls hW hS hl => ?_)
  refine lv_lload_n hx hb dX4_digest_141 rfl (lv_at hl 0 rfl) ?_
  cases hF
  exact retL C0 hr hlk hW hS dX4_digest_142
