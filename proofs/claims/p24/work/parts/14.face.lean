theorem hdX4_wind : yX4_wind.cls = RX4 ∧ yX4_wind.cls ≠ "java/lang/invoke/MethodHandle" ∧ yX4_wind.cls ≠ "java/lang/invoke/VarHandle" ∧ (parseMethodDescriptor yX4_wind.desc).map (fun d => d.parameters.length) = some 2 := by decide +kernel
def FX4_wind (ns nb : Nat) (σ : Sg) (a1 : Int32) (a2 : Int32) : Option ((Nat ⊕ Int32) × Sg) :=
  (FX4_springAt ns nb σ a1).bind fun z1 => oc z1.1 (some (.inl 1, z1.2)) (fun iz1 => if iz1 < ns then ((FX4_isIn ns nb z1.2 a2 1 200000).bind fun z2 => if z2.1 = 0 then (some (.inl 2, z2.2)) else (some (.inr ((sI z2.2 5 iz1 1 (mnI ((z2.2.1 5 iz1 1) + a2) 200000)).1 5 iz1 1), (sI z2.2 5 iz1 1 (mnI ((z2.2.1 5 iz1 1) + a2) 200000))))) else none)
set_option maxHeartbeats 4000000 in
set_option maxRecDepth 100000 in
theorem nX4_wind (l : Launch) (lo : Nat) (g : Gx) (h : Sh) (σ : Sg) (a1 : Int32) (a2 : Int32)  (r : Int32) (σ1 : Sg) (hF : FX4_wind h.1 h.2.1 σ a1 a2 = some (.inr r, σ1)) : MI l yX4_wind (ws_ yX4_wind cX4_wind 4 (some .int)) 1 23 0 0 lo g h [.ref (h.2.2 0 0), .int a1, .int a2] σ r σ1 := by
  refine ofB (own := RX4) (by decide +kernel) rfl (fun p e s m below meth c C0 hr hlk hlo hK hZ hW hS ls hl => ?_) (Nat.le_of_ble_eq_true rfl)
  have hx := C0.1
  have hb := C0.2.1
  have hl : lv_has ls 4 [(0, .ref (h.2.2 0 0)), (1, .int a1), (2, .int a2)] := hl
  unfold FX4_wind at hF
  refine lv_aload_n hx hb dX4_wind_0 rfl (lv_at hl 0 rfl) ?_
  refine lv_iload_n hx hb dX4_wind_1 rfl (lv_at hl 1 rfl) ?_
  obtain ⟨z1, hz1, hF⟩ := bnd hF
  refine inR (runV C0 hlo hK hZ hW hS (kX4_springAt l lo g h _ a1  _ _ hz1) wCO_X4_springAt wML_X4_51 wIM_X4_springAt wSE_X4_X4_springAt wIN_X4 hdX4_springAt ⟨Nat.le_of_ble_eq_true rfl, Nat.le_of_ble_eq_true rfl⟩ (recvK hK hW (al0 h 0 (by decide)) (ct0 0) rfl) rfl hl.1 rfl (Nat.le_of_ble_eq_true rfl) dX4_wind_2 ⟨Nat.le_of_ble_eq_true rfl, Nat.le_of_ble_eq_true rfl⟩) hS (fun H locs hW hS => ?_)
  refine nspl (fun nz1 => ?_) (fun iz1 nz1 => ?_)
  · rw [nz1, oc_n] at hF
    refine lv_astore_nN (lv' := [(3, .null), (0, .ref (h.2.2 0 0)), (1, .int a1), (2, .int a2)]) hx hb dX4_wind_5 rfl hl (by decide) rfl (fun ls hl => ?_)
    refine lv_aload_nN hx hb dX4_wind_6 rfl (lv_at hl 0 rfl) ?_
    refine lv_ifnonnullN hx hb dX4_wind_7 ?_
    cases hF
  · rw [nz1, oc_s] at hF
    obtain ⟨hiz1, hF⟩ := grp hF
    refine lv_astore_n (lv' := [(3, .ref (h.2.2 5 iz1)), (0, .ref (h.2.2 0 0)), (1, .int a1), (2, .int a2)]) hx hb dX4_wind_5 rfl hl (by decide) rfl (fun ls hl => ?_)
    refine lv_aload_n hx hb dX4_wind_6 rfl (lv_at hl 0 rfl) ?_
    refine lv_ifnonnull (tgt := 20) hx hb dX4_wind_7 (by decide) ?_
    refine lv_iload_n hx hb dX4_wind_20 rfl (lv_at hl 3 rfl) ?_
    refine lv_iconst (v := 1) hx hb dX4_wind_21 (by decide) ?_
    refine lv_ldc hx hb C0.2.2.2.1 (C0.2.2.2.2 _ wconstant_X4_60) dX4_wind_22 ?_
    obtain ⟨z2, hz2, hF⟩ := bnd hF
    refine inI (runS C0 hlo hK hZ hW hS (kX4_isIn l lo g h _ a2 1 200000  _ _ hz2) wCO_X4_isIn wML_X4_28 wST_X4_isIn wIN_X4 hdsX4_isIn ⟨Nat.le_of_ble_eq_true rfl, Nat.le_of_ble_eq_true rfl⟩ rfl hl.1 rfl (Nat.le_of_ble_eq_true rfl) dX4_wind_24 ⟨Nat.le_of_ble_eq_true rfl, Nat.le_of_ble_eq_true rfl⟩) hS (fun H locs hW hS => ?_)
    refine lv_if_ne (tgt := 40) hx hb dX4_wind_27 (by decide) (fun c3 => ?_) (fun c3 => ?_)
    · rw [if_neg c3] at hF
      refine lv_aload_n hx hb dX4_wind_40 rfl (lv_at hl 0 rfl) ?_
      refine lv_aload_n hx hb dX4_wind_41 rfl (lv_at hl 0 rfl) ?_
      refine get5 C0 hK hW iz1 (al5 hiz1) 1 (by decide) wFL_X4_63 rfl rfl dX4_wind_42 ?_
      refine lv_iload_n hx hb dX4_wind_45 rfl (lv_at hl 3 rfl) ?_
      refine lv_iadd hx hb dX4_wind_46 ?_
      refine lv_ldc hx hb C0.2.2.2.1 (C0.2.2.2.2 _ wconstant_X4_60) dX4_wind_47 ?_
      refine r_min C0 hl.1 wML_X4_66 (Nat.le_of_ble_eq_true rfl) (Nat.le_of_ble_eq_true rfl) (Nat.le_of_ble_eq_true rfl) (Nat.le_of_ble_eq_true rfl) dX4_wind_49 ?_
      refine put5_1 C0 hK hW hS iz1 (al5 hiz1) wFL_X4_63 dX4_wind_52 (fun H locs hW hS => ?_)
      refine lv_aload_n hx hb dX4_wind_55 rfl (lv_at hl 0 rfl) ?_
      refine get5 C0 hK hW iz1 (al5 hiz1) 1 (by decide) wFL_X4_63 rfl rfl dX4_wind_56 ?_
      cases hF
      exact retI C0 hr hlk hW hS dX4_wind_59
    · rw [if_pos c3] at hF
      cases hF
theorem hdX4_couple : yX4_couple.cls = RX4 ∧ yX4_couple.cls ≠ "java/lang/invoke/MethodHandle" ∧ yX4_couple.cls ≠ "java/lang/invoke/VarHandle" ∧ (parseMethodDescriptor yX4_couple.desc).map (fun d => d.parameters.length) = some 3 := by decide +kernel
def FX4_couple (ns nb : Nat) (σ : Sg) (a1 : Int32) (a2 : Int32) (a3 : Int32) : Option ((Nat ⊕ Int32) × Sg) :=
  (FX4_springAt ns nb σ a1).bind fun z1 => oc z1.1 (some (.inl 1, z1.2)) (fun iz1 => if iz1 < ns then ((FX4_springAt ns nb z1.2 a2).bind fun z2 => oc z2.1 (some (.inl 1, z2.2)) (fun iz2 => if iz2 < ns then (if a1 = a2 then (some (.inl 2, z2.2)) else ((FX4_pairBit ns nb z2.2 a1 a2).bind fun z4 => if a3 = 0 then ((FJ6_bitCount_0f7a4 ns nb (sI z4.2 0 0 5 ((z4.2.1 0 0 5) &&& (z4.1 ^^^ (-1)))) ((sI z4.2 0 0 5 ((z4.2.1 0 0 5) &&& (z4.1 ^^^ (-1)))).1 0 0 5)).bind fun z6 => some (.inr z6.1, z6.2)) else ((FJ6_bitCount_0f7a4 ns nb (sI z4.2 0 0 5 ((z4.2.1 0 0 5) ||| z4.1)) ((sI z4.2 0 0 5 ((z4.2.1 0 0 5) ||| z4.1)).1 0 0 5)).bind fun z7 => some (.inr z7.1, z7.2)))) else none)) else none)
set_option maxHeartbeats 4000000 in
set_option maxRecDepth 100000 in
theorem nX4_couple (l : Launch) (lo : Nat) (g : Gx) (h : Sh) (σ : Sg) (a1 : Int32) (a2 : Int32) (a3 : Int32)  (r : Int32) (σ1 : Sg) (hF : FX4_couple h.1 h.2.1 σ a1 a2 a3 = some (.inr r, σ1)) : MI l yX4_couple (ws_ yX4_couple cX4_couple 5 (some .int)) 2 44 0 0 lo g h [.ref (h.2.2 0 0), .int a1, .int a2, .int a3] σ r σ1 := by
  refine ofB (own := RX4) (by decide +kernel) rfl (fun p e s m below meth c C0 hr hlk hlo hK hZ hW hS ls hl => ?_) (Nat.le_of_ble_eq_true rfl)
  have hx := C0.1
  have hb := C0.2.1
  have hl : lv_has ls 5 [(0, .ref (h.2.2 0 0)), (1, .int a1), (2, .int a2), (3, .int a3)] := hl
  unfold FX4_couple at hF
  refine lv_aload_n hx hb dX4_couple_0 rfl (lv_at hl 0 rfl) ?_
  refine lv_iload_n hx hb dX4_couple_1 rfl (lv_at hl 1 rfl) ?_
  obtain ⟨z1, hz1, hF⟩ := bnd hF
  refine inR (runV C0 hlo hK hZ hW hS (kX4_springAt l lo g h _ a1  _ _ hz1) wCO_X4_springAt wML_X4_51 wIM_X4_springAt wSE_X4_X4_springAt wIN_X4 hdX4_springAt ⟨Nat.le_of_ble_eq_true rfl, Nat.le_of_ble_eq_true rfl⟩ (recvK hK hW (al0 h 0 (by decide)) (ct0 0) rfl) rfl hl.1 rfl (Nat.le_of_ble_eq_true rfl) dX4_couple_2 ⟨Nat.le_of_ble_eq_true rfl, Nat.le_of_ble_eq_true rfl⟩) hS (fun H locs hW hS => ?_)
  refine nspl (fun nz1 => ?_) (fun iz1 nz1 => ?_)
  · rw [nz1, oc_n] at hF
    refine lv_ifnullN (tgt := 16) hx hb dX4_couple_5 (by decide) ?_
    cases hF
  · rw [nz1, oc_s] at hF
    obtain ⟨hiz1, hF⟩ := grp hF
    refine lv_ifnull hx hb dX4_couple_5 ?_
    refine lv_aload_n hx hb dX4_couple_8 rfl (lv_at hl 0 rfl) ?_
    refine lv_iload_n hx hb dX4_couple_9 rfl (lv_at hl 2 rfl) ?_
    obtain ⟨z2, hz2, hF⟩ := bnd hF
    refine inR (runV C0 hlo hK hZ hW hS (kX4_springAt l lo g h _ a2  _ _ hz2) wCO_X4_springAt wML_X4_51 wIM_X4_springAt wSE_X4_X4_springAt wIN_X4 hdX4_springAt ⟨Nat.le_of_ble_eq_true rfl, Nat.le_of_ble_eq_true rfl⟩ (recvK hK hW (al0 h 0 (by decide)) (ct0 0) rfl) rfl hl.1 rfl (Nat.le_of_ble_eq_true rfl) dX4_couple_10 ⟨Nat.le_of_ble_eq_true rfl, Nat.le_of_ble_eq_true rfl⟩) hS (fun H locs hW hS => ?_)
    refine nspl (fun nz2 => ?_) (fun iz2 nz2 => ?_)
    · rw [nz2, oc_n] at hF
      refine lv_ifnonnullN hx hb dX4_couple_13 ?_
      cases hF
    · rw [nz2, oc_s] at hF
      obtain ⟨hiz2, hF⟩ := grp hF
      refine lv_ifnonnull (tgt := 26) hx hb dX4_couple_13 (by decide) ?_
      refine lv_iload_n hx hb dX4_couple_26 rfl (lv_at hl 1 rfl) ?_
      refine lv_iload_n hx hb dX4_couple_27 rfl (lv_at hl 2 rfl) ?_
      refine lv_icmp_ne (tgt := 41) hx hb dX4_couple_28 (by decide) (fun c3 => ?_) (fun c3 => ?_)
      · rw [if_neg c3] at hF
        refine lv_iload_n hx hb dX4_couple_41 rfl (lv_at hl 1 rfl) ?_
        refine lv_iload_n hx hb dX4_couple_42 rfl (lv_at hl 2 rfl) ?_
        obtain ⟨z4, hz4, hF⟩ := bnd hF
        refine inI (runS C0 hlo hK hZ hW hS (kX4_pairBit l lo g h _ a1 a2  _ _ hz4) wCO_X4_pairBit wML_X4_78 wST_X4_pairBit wIN_X4 hdsX4_pairBit ⟨Nat.le_of_ble_eq_true rfl, Nat.le_of_ble_eq_true rfl⟩ rfl hl.1 rfl (Nat.le_of_ble_eq_true rfl) dX4_couple_43 ⟨Nat.le_of_ble_eq_true rfl, Nat.le_of_ble_eq_true rfl⟩) hS (fun H locs hW hS => ?_)
        refine lv_istore (lv' := [(4, .int z4.1), (0, .ref (h.2.2 0 0)), (1, .int a1), (2, .int a2), (3, .int a3)]) hx hb dX4_couple_46 hl (by decide) rfl (fun ls hl => ?_)
        refine lv_aload_n hx hb dX4_couple_48 rfl (lv_at hl 1 rfl) ?_
        refine lv_iload_n hx hb dX4_couple_49 rfl (lv_at hl 4 rfl) ?_
        refine lv_if_eq (tgt := 63) hx hb dX4_couple_50 (by decide) (fun c5 => ?_) (fun c5 => ?_)
        · rw [if_pos c5] at hF
          refine lv_aload_n hx hb dX4_couple_63 rfl (lv_at hl 1 rfl) ?_
          refine get0 C0 hK hW 0 (al0 h 0 (by decide)) 5 (by decide) wFL_X4_81 rfl rfl dX4_couple_64 ?_
          refine lv_iload hx hb dX4_couple_67 (lv_at hl 0 rfl) ?_
          refine lv_iconst (v := (-1)) hx hb dX4_couple_69 (by decide) ?_
          refine lv_ixor hx hb dX4_couple_70 ?_
          refine lv_iand hx hb dX4_couple_71 ?_
          refine put0_5 C0 hK hW hS 0 (al0 h 0 (by decide)) wFL_X4_81 dX4_couple_72 (fun H locs hW hS => ?_)
          refine lv_aload_n hx hb dX4_couple_75 rfl (lv_at hl 1 rfl) ?_
          refine get0 C0 hK hW 0 (al0 h 0 (by decide)) 5 (by decide) wFL_X4_81 rfl rfl dX4_couple_76 ?_
          obtain ⟨z6, hz6, hF⟩ := bnd hF
          refine inI (runS C0 hlo hK hZ hW hS (kJ6_bitCount_0f7a4 l lo g h _ ((sI z4.2 0 0 5 ((z4.2.1 0 0 5) &&& (z4.1 ^^^ (-1)))).1 0 0 5)  _ _ hz6) wCO_J6_bitCount_0f7a4 wML_X4_84 wST_J6_bitCount_0f7a4 wIN_J6 hdsJ6_bitCount_0f7a4 ⟨Nat.le_of_ble_eq_true rfl, Nat.le_of_ble_eq_true rfl⟩ rfl hl.1 rfl (Nat.le_of_ble_eq_true rfl) dX4_couple_79 ⟨Nat.le_of_ble_eq_true rfl, Nat.le_of_ble_eq_true rfl⟩) hS (fun H locs hW hS => ?_)
          cases hF
          exact retI C0 hr hlk hW hS dX4_couple_82
        · rw [if_neg c5] at hF
          refine lv_aload_n hx hb dX4_couple_53 rfl (lv_at hl 1 rfl) ?_
          refine get0 C0 hK hW 0 (al0 h 0 (by decide)) 5 (by decide) wFL_X4_81 rfl rfl dX4_couple_54 ?_
          refine lv_iload hx hb dX4_couple_57 (lv_at hl 0 rfl) ?_
          refine lv_ior hx hb dX4_couple_59 ?_
          refine lv_goto (tgt := 72) hx hb dX4_couple_60 (by decide) ?_
          refine put0_5 C0 hK hW hS 0 (al0 h 0 (by decide)) wFL_X4_81 dX4_couple_72 (fun H locs hW hS => ?_)
          refine lv_aload_n hx hb dX4_couple_75 rfl (lv_at hl 1 rfl) ?_
          refine get0 C0 hK hW 0 (al0 h 0 (by decide)) 5 (by decide) wFL_X4_81 rfl rfl dX4_couple_76 ?_
          obtain ⟨z7, hz7, hF⟩ := bnd hF
          refine inI (runS C0 hlo hK hZ hW hS (kJ6_bitCount_0f7a4 l lo g h _ ((sI z4.2 0 0 5 ((z4.2.1 0 0 5) ||| z4.1)).1 0 0 5)  _ _ hz7) wCO_J6_bitCount_0f7a4 wML_X4_84 wST_J6_bitCount_0f7a4 wIN_J6 hdsJ6_bitCount_0f7a4 ⟨Nat.le_of_ble_eq_true rfl, Nat.le_of_ble_eq_true rfl⟩ rfl hl.1 rfl (Nat.le_of_ble_eq_true rfl) dX4_couple_79 ⟨Nat.le_of_ble_eq_true rfl, Nat.le_of_ble_eq_true rfl⟩) hS (fun H locs hW hS => ?_)
          cases hF
          exact retI C0 hr hlk hW hS dX4_couple_82
      · rw [if_pos c3] at hF
        cases hF
theorem hdX4_spring : yX4_spring.cls = RX4 ∧ yX4_spring.cls ≠ "java/lang/invoke/MethodHandle" ∧ yX4_spring.cls ≠ "java/lang/invoke/VarHandle" ∧ (parseMethodDescriptor yX4_spring.desc).map (fun d => d.parameters.length) = some 2 := by decide +kernel
def FX4_spring (ns nb : Nat) (σ : Sg) (a1 : Int32) (a2 : Int32) : Option ((Nat ⊕ Int32) × Sg) :=
  (FX4_springAt ns nb σ a1).bind fun z1 => oc z1.1 (some (.inl 1, z1.2)) (fun iz1 => if iz1 < ns then (if a2 = 0 then (some (.inr (z1.2.1 5 iz1 0), z1.2)) else (if a2 = 1 then (some (.inr (z1.2.1 5 iz1 1), z1.2)) else (if a2 = 2 then (some (.inr ((z1.2.2 5 iz1 2).toInt32), z1.2)) else (if a2 = 3 then (some (.inr (z1.2.1 5 iz1 3), z1.2)) else (if a2 = 4 then (if (z1.2.1 5 iz1 4) = 0 then (some (.inr 0, z1.2)) else (some (.inr 1, z1.2))) else (if a2 = 5 then ((FX4_birdsDrivenBy ns nb z1.2 a1).bind fun z8 => some (.inr z8.1, z8.2)) else (if a2 = 6 then ((FX4_loadOn ns nb z1.2 a1).bind fun z10 => some (.inr z10.1, z10.2)) else (some (.inl 1, z1.2))))))))) else none)
set_option maxHeartbeats 4000000 in
set_option maxRecDepth 100000 in
theorem nX4_spring (l : Launch) (lo : Nat) (g : Gx) (h : Sh) (σ : Sg) (a1 : Int32) (a2 : Int32)  (r : Int32) (σ1 : Sg) (hF : FX4_spring h.1 h.2.1 σ a1 a2 = some (.inr r, σ1)) : MI l yX4_spring (ws_ yX4_spring cX4_spring 4 (some .int)) 4 94 0 0 lo g h [.ref (h.2.2 0 0), .int a1, .int a2] σ r σ1 := by
  refine ofB (own := RX4) (by decide +kernel) rfl (fun p e s m below meth c C0 hr hlk hlo hK hZ hW hS ls hl => ?_) (Nat.le_of_ble_eq_true rfl)
  have hx := C0.1
  have hb := C0.2.1
  have hl : lv_has ls 4 [(0, .ref (h.2.2 0 0)), (1, .int a1), (2, .int a2)] := hl
  unfold FX4_spring at hF
  refine lv_aload_n hx hb dX4_spring_0 rfl (lv_at hl 0 rfl) ?_
  refine lv_iload_n hx hb dX4_spring_1 rfl (lv_at hl 1 rfl) ?_
  obtain ⟨z1, hz1, hF⟩ := bnd hF
  refine inR (runV C0 hlo hK hZ hW hS (kX4_springAt l lo g h _ a1  _ _ hz1) wCO_X4_springAt wML_X4_51 wIM_X4_springAt wSE_X4_X4_springAt wIN_X4 hdX4_springAt ⟨Nat.le_of_ble_eq_true rfl, Nat.le_of_ble_eq_true rfl⟩ (recvK hK hW (al0 h 0 (by decide)) (ct0 0) rfl) rfl hl.1 rfl (Nat.le_of_ble_eq_true rfl) dX4_spring_2 ⟨Nat.le_of_ble_eq_true rfl, Nat.le_of_ble_eq_true rfl⟩) hS (fun H locs hW hS => ?_)
  refine nspl (fun nz1 => ?_) (fun iz1 nz1 => ?_)
  · rw [nz1, oc_n] at hF
    refine lv_astore_nN (lv' := [(3, .null), (0, .ref (h.2.2 0 0)), (1, .int a1), (2, .int a2)]) hx hb dX4_spring_5 rfl hl (by decide) rfl (fun ls hl => ?_)
    refine lv_aload_nN hx hb dX4_spring_6 rfl (lv_at hl 0 rfl) ?_
    refine lv_ifnonnullN hx hb dX4_spring_7 ?_
    cases hF
  · rw [nz1, oc_s] at hF
    obtain ⟨hiz1, hF⟩ := grp hF
    refine lv_astore_n (lv' := [(3, .ref (h.2.2 5 iz1)), (0, .ref (h.2.2 0 0)), (1, .int a1), (2, .int a2)]) hx hb dX4_spring_5 rfl hl (by decide) rfl (fun ls hl => ?_)
    refine lv_aload_n hx hb dX4_spring_6 rfl (lv_at hl 0 rfl) ?_
    refine lv_ifnonnull (tgt := 20) hx hb dX4_spring_7 (by decide) ?_
    refine lv_iload_n hx hb dX4_spring_20 rfl (lv_at hl 3 rfl) ?_
    by_cases c2 : a2 = 0
    · rw [if_pos c2] at hF
      refine lv_tableIn (tgt := 64) (off := 43) hx hb dX4_spring_21 (by rw [c2]; decide) (by rw [c2]; decide) (by rw [c2]; decide) (by decide) ?_
      refine lv_aload_n hx hb dX4_spring_64 rfl (lv_at hl 0 rfl) ?_
      refine get5 C0 hK hW iz1 (al5 hiz1) 0 (by decide) wFL_X4_90 rfl rfl dX4_spring_65 ?_
      cases hF
      exact retI C0 hr hlk hW hS dX4_spring_68
    · rw [if_neg c2] at hF
      by_cases c3 : a2 = 1
      · rw [if_pos c3] at hF
        refine lv_tableIn (tgt := 69) (off := 48) hx hb dX4_spring_21 (by rw [c3]; decide) (by rw [c3]; decide) (by rw [c3]; decide) (by decide) ?_
        refine lv_aload_n hx hb dX4_spring_69 rfl (lv_at hl 0 rfl) ?_
        refine get5 C0 hK hW iz1 (al5 hiz1) 1 (by decide) wFL_X4_63 rfl rfl dX4_spring_70 ?_
        cases hF
        exact retI C0 hr hlk hW hS dX4_spring_73
      · rw [if_neg c3] at hF
        by_cases c4 : a2 = 2
        · rw [if_pos c4] at hF
          refine lv_tableIn (tgt := 74) (off := 53) hx hb dX4_spring_21 (by rw [c4]; decide) (by rw [c4]; decide) (by rw [c4]; decide) (by decide) ?_
          refine lv_aload_n hx hb dX4_spring_74 rfl (lv_at hl 0 rfl) ?_
          refine get5 C0 hK hW iz1 (al5 hiz1) 2 (by decide) wFL_X4_93 rfl rfl dX4_spring_75 ?_
          refine lv_l2i hx hb dX4_spring_78 rfl ?_
          cases hF
          exact retI C0 hr hlk hW hS dX4_spring_79
        · rw [if_neg c4] at hF
          by_cases c5 : a2 = 3
          · rw [if_pos c5] at hF
            refine lv_tableIn (tgt := 80) (off := 59) hx hb dX4_spring_21 (by rw [c5]; decide) (by rw [c5]; decide) (by rw [c5]; decide) (by decide) ?_
            refine lv_aload_n hx hb dX4_spring_80 rfl (lv_at hl 0 rfl) ?_
            refine get5 C0 hK hW iz1 (al5 hiz1) 3 (by decide) wFL_X4_97 rfl rfl dX4_spring_81 ?_
            cases hF
            exact retI C0 hr hlk hW hS dX4_spring_84
          · rw [if_neg c5] at hF
            by_cases c7 : a2 = 4
            · rw [if_pos c7] at hF
              refine lv_tableIn (tgt := 85) (off := 64) hx hb dX4_spring_21 (by rw [c7]; decide) (by rw [c7]; decide) (by rw [c7]; decide) (by decide) ?_
              refine lv_aload_n hx hb dX4_spring_85 rfl (lv_at hl 0 rfl) ?_
              refine get5 C0 hK hW iz1 (al5 hiz1) 4 (by decide) wFL_X4_72 rfl rfl dX4_spring_86 ?_
              refine lv_if_eq (tgt := 96) hx hb dX4_spring_89 (by decide) (fun c6 => ?_) (fun c6 => ?_)
              · rw [if_pos c6] at hF
                refine lv_iconst (v := 0) hx hb dX4_spring_96 (by decide) ?_
                cases hF
                exact retI C0 hr hlk hW hS dX4_spring_97
              · rw [if_neg c6] at hF
                refine lv_iconst (v := 1) hx hb dX4_spring_92 (by decide) ?_
                refine lv_goto (tgt := 97) hx hb dX4_spring_93 (by decide) ?_
                cases hF
                exact retI C0 hr hlk hW hS dX4_spring_97
            · rw [if_neg c7] at hF
              by_cases c9 : a2 = 5
              · rw [if_pos c9] at hF
                refine lv_tableIn (tgt := 98) (off := 77) hx hb dX4_spring_21 (by rw [c9]; decide) (by rw [c9]; decide) (by rw [c9]; decide) (by decide) ?_
                refine lv_aload_n hx hb dX4_spring_98 rfl (lv_at hl 1 rfl) ?_
                refine lv_iload_n hx hb dX4_spring_99 rfl (lv_at hl 2 rfl) ?_
                obtain ⟨z8, hz8, hF⟩ := bnd hF
                refine inI (runV C0 hlo hK hZ hW hS (kX4_birdsDrivenBy l lo g h _ a1  _ _ hz8) wCO_X4_birdsDrivenBy wML_X4_100 wIM_X4_birdsDrivenBy wSE_X4_X4_birdsDrivenBy wIN_X4 hdX4_birdsDrivenBy ⟨Nat.le_of_ble_eq_true rfl, Nat.le_of_ble_eq_true rfl⟩ (recvK hK hW (al0 h 0 (by decide)) (ct0 0) rfl) rfl hl.1 rfl (Nat.le_of_ble_eq_true rfl) dX4_spring_100 ⟨Nat.le_of_ble_eq_true rfl, Nat.le_of_ble_eq_true rfl⟩) hS (fun H locs hW hS => ?_)
                cases hF
                exact retI C0 hr hlk hW hS dX4_spring_103
              · rw [if_neg c9] at hF
                by_cases c11 : a2 = 6
                · rw [if_pos c11] at hF
                  refine lv_tableIn (tgt := 104) (off := 83) hx hb dX4_spring_21 (by rw [c11]; decide) (by rw [c11]; decide) (by rw [c11]; decide) (by decide) ?_
                  refine lv_aload_n hx hb dX4_spring_104 rfl (lv_at hl 1 rfl) ?_
                  refine lv_iload_n hx hb dX4_spring_105 rfl (lv_at hl 2 rfl) ?_
                  obtain ⟨z10, hz10, hF⟩ := bnd hF
                  refine inI (runV C0 hlo hK hZ hW hS (kX4_loadOn l lo g h _ a1  _ _ hz10) wCO_X4_loadOn wML_X4_103 wIM_X4_loadOn wSE_X4_X4_loadOn wIN_X4 hdX4_loadOn ⟨Nat.le_of_ble_eq_true rfl, Nat.le_of_ble_eq_true rfl⟩ (recvK hK hW (al0 h 0 (by decide)) (ct0 0) rfl) rfl hl.1 rfl (Nat.le_of_ble_eq_true rfl) dX4_spring_106 ⟨Nat.le_of_ble_eq_true rfl, Nat.le_of_ble_eq_true rfl⟩) hS (fun H locs hW hS => ?_)
                  cases hF
                  exact retI C0 hr hlk hW hS dX4_spring_109
                · rw [if_neg c11] at hF
                  have t0 := lv_neT c2 (a := 0) (by decide)
                  have t1 := lv_neT c3 (a := 1) (by decide)
                  have t2 := lv_neT c4 (a := 2) (by decide)
                  have t3 := lv_neT c5 (a := 3) (by decide)
                  have t4 := lv_neT c7 (a := 4) (by decide)
                  have t5 := lv_neT c9 (a := 5) (by decide)
                  have t6 := lv_neT c11 (a := 6) (by decide)
                  refine lv_tableOut (tgt := 110) hx hb dX4_spring_21 (by omega) (by decide) ?_
                  cases hF
theorem hdX4_pin : yX4_pin.cls = RX4 ∧ yX4_pin.cls ≠ "java/lang/invoke/MethodHandle" ∧ yX4_pin.cls ≠ "java/lang/invoke/VarHandle" ∧ (parseMethodDescriptor yX4_pin.desc).map (fun d => d.parameters.length) = some 3 := by decide +kernel
def FX4_pin (ns nb : Nat) (σ : Sg) (a1 : Int32) (a2 : Int32) (a3 : Int32) : Option ((Nat ⊕ Int32) × Sg) :=
  (FX4_birdAt ns nb σ a1).bind fun z1 => oc z1.1 (some (.inl 1, z1.2)) (fun iz1 => if iz1 < nb then ((FX0_hasPlace ns nb z1.2 iz1 a2).bind fun z2 => if z2.1 = 0 then (some (.inl 2, z2.2)) else ((FX4_isIn ns nb z2.2 a3 0 5).bind fun z4 => if z4.1 = 0 then (some (.inl 2, z4.2)) else ((FX0_hasPin ns nb z4.2 iz1 a2 a3).bind fun z6 => if z6.1 = 0 then (if (z6.2.1 6 iz1 8) < 24 then ((FX0_turnPin ns nb z6.2 iz1 a2 a3).bind fun z10 => some (.inr (z10.1 6 iz1 8), z10)) else (some (.inl 3, z6.2))) else ((FX0_turnPin ns nb z6.2 iz1 a2 a3).bind fun z8 => some (.inr (z8.1 6 iz1 8), z8))))) else none)
set_option maxHeartbeats 4000000 in
set_option maxRecDepth 100000 in
theorem nX4_pin (l : Launch) (lo : Nat) (g : Gx) (h : Sh) (σ : Sg) (a1 : Int32) (a2 : Int32) (a3 : Int32)  (r : Int32) (σ1 : Sg) (hF : FX4_pin h.1 h.2.1 σ a1 a2 a3 = some (.inr r, σ1)) : MI l yX4_pin (ws_ yX4_pin cX4_pin 5 (some .int)) 3 65 0 0 lo g h [.ref (h.2.2 0 0), .int a1, .int a2, .int a3] σ r σ1 := by
  refine ofB (own := RX4) (by decide +kernel) rfl (fun p e s m below meth c C0 hr hlk hlo hK hZ hW hS ls hl => ?_) (Nat.le_of_ble_eq_true rfl)
  have hx := C0.1
  have hb := C0.2.1
  have hl : lv_has ls 5 [(0, .ref (h.2.2 0 0)), (1, .int a1), (2, .int a2), (3, .int a3)] := hl
  unfold FX4_pin at hF
  refine lv_aload_n hx hb dX4_pin_0 rfl (lv_at hl 0 rfl) ?_
  refine lv_iload_n hx hb dX4_pin_1 rfl (lv_at hl 1 rfl) ?_
  obtain ⟨z1, hz1, hF⟩ := bnd hF
  refine inR (runV C0 hlo hK hZ hW hS (kX4_birdAt l lo g h _ a1  _ _ hz1) wCO_X4_birdAt wML_X4_122 wIM_X4_birdAt wSE_X4_X4_birdAt wIN_X4 hdX4_birdAt ⟨Nat.le_of_ble_eq_true rfl, Nat.le_of_ble_eq_true rfl⟩ (recvK hK hW (al0 h 0 (by decide)) (ct0 0) rfl) rfl hl.1 rfl (Nat.le_of_ble_eq_true rfl) dX4_pin_2 ⟨Nat.le_of_ble_eq_true rfl, Nat.le_of_ble_eq_true rfl⟩) hS (fun H locs hW hS => ?_)
  refine nspl (fun nz1 => ?_) (fun iz1 nz1 => ?_)
  · rw [nz1, oc_n] at hF
    refine lv_astoreN (lv' := [(4, .null), (0, .ref (h.2.2 0 0)), (1, .int a1), (2, .int a2), (3, .int a3)]) hx hb dX4_pin_5 hl (by decide) rfl (fun ls hl => ?_)
    refine lv_aloadN hx hb dX4_pin_7 (lv_at hl 0 rfl) ?_
    refine lv_ifnonnullN hx hb dX4_pin_9 ?_
    cases hF
  · rw [nz1, oc_s] at hF
    obtain ⟨hiz1, hF⟩ := grp hF
    refine lv_astore (lv' := [(4, .ref (h.2.2 6 iz1)), (0, .ref (h.2.2 0 0)), (1, .int a1), (2, .int a2), (3, .int a3)]) hx hb dX4_pin_5 hl (by decide) rfl (fun ls hl => ?_)
    refine lv_aload hx hb dX4_pin_7 (lv_at hl 0 rfl) ?_
    refine lv_ifnonnull (tgt := 22) hx hb dX4_pin_9 (by decide) ?_
    refine lv_aload hx hb dX4_pin_22 (lv_at hl 0 rfl) ?_
    refine lv_iload_n hx hb dX4_pin_24 rfl (lv_at hl 3 rfl) ?_
    obtain ⟨z2, hz2, hF⟩ := bnd hF
    refine inI (runV C0 hlo hK hZ hW hS (kX0_hasPlace l lo g h _ iz1 a2 hiz1 _ _ hz2) wCO_X0_hasPlace wML_X4_138 wIM_X0_hasPlace wSE_X0_X0_hasPlace wIN_X0 hdX0_hasPlace ⟨Nat.le_of_ble_eq_true rfl, Nat.le_of_ble_eq_true rfl⟩ (recvK hK hW (al6 6 hiz1 (by decide)) (ct6 iz1) rfl) rfl hl.1 rfl (Nat.le_of_ble_eq_true rfl) dX4_pin_25 ⟨Nat.le_of_ble_eq_true rfl, Nat.le_of_ble_eq_true rfl⟩) hS (fun H locs hW hS => ?_)
    refine lv_if_ne (tgt := 41) hx hb dX4_pin_28 (by decide) (fun c3 => ?_) (fun c3 => ?_)
    · rw [if_neg c3] at hF
      refine lv_iload_n hx hb dX4_pin_41 rfl (lv_at hl 4 rfl) ?_
      refine lv_iconst (v := 0) hx hb dX4_pin_42 (by decide) ?_
      refine lv_iconst (v := 5) hx hb dX4_pin_43 (by decide) ?_
      obtain ⟨z4, hz4, hF⟩ := bnd hF
      refine inI (runS C0 hlo hK hZ hW hS (kX4_isIn l lo g h _ a3 0 5  _ _ hz4) wCO_X4_isIn wML_X4_28 wST_X4_isIn wIN_X4 hdsX4_isIn ⟨Nat.le_of_ble_eq_true rfl, Nat.le_of_ble_eq_true rfl⟩ rfl hl.1 rfl (Nat.le_of_ble_eq_true rfl) dX4_pin_44 ⟨Nat.le_of_ble_eq_true rfl, Nat.le_of_ble_eq_true rfl⟩) hS (fun H locs hW hS => ?_)
      refine lv_if_ne (tgt := 60) hx hb dX4_pin_47 (by decide) (fun c5 => ?_) (fun c5 => ?_)
      · rw [if_neg c5] at hF
        refine lv_aload hx hb dX4_pin_60 (lv_at hl 0 rfl) ?_
        refine lv_iload_n hx hb dX4_pin_62 rfl (lv_at hl 3 rfl) ?_
        refine lv_iload_n hx hb dX4_pin_63 rfl (lv_at hl 4 rfl) ?_
        obtain ⟨z6, hz6, hF⟩ := bnd hF
        refine inI (runV C0 hlo hK hZ hW hS (kX0_hasPin l lo g h _ iz1 a2 a3 hiz1 _ _ hz6) wCO_X0_hasPin wML_X4_146 wIM_X0_hasPin wSE_X0_X0_hasPin wIN_X0 hdX0_hasPin ⟨Nat.le_of_ble_eq_true rfl, Nat.le_of_ble_eq_true rfl⟩ (recvK hK hW (al6 6 hiz1 (by decide)) (ct6 iz1) rfl) rfl hl.1 rfl (Nat.le_of_ble_eq_true rfl) dX4_pin_64 ⟨Nat.le_of_ble_eq_true rfl, Nat.le_of_ble_eq_true rfl⟩) hS (fun H locs hW hS => ?_)
        refine lv_if_ne (tgt := 90) hx hb dX4_pin_67 (by decide) (fun c7 => ?_) (fun c7 => ?_)
        · rw [if_neg c7] at hF
          refine lv_aload hx hb dX4_pin_90 (lv_at hl 0 rfl) ?_
          refine lv_iload_n hx hb dX4_pin_92 rfl (lv_at hl 3 rfl) ?_
          refine lv_iload_n hx hb dX4_pin_93 rfl (lv_at hl 4 rfl) ?_
          obtain ⟨z8, hz8, hF⟩ := bnd hF
          refine inV (runV C0 hlo hK hZ hW hS (kX0_turnPin l lo g h _ iz1 a2 a3 hiz1 _ hz8) wCO_X0_turnPin wML_X4_155 wIM_X0_turnPin wSE_X0_X0_turnPin wIN_X0 hdX0_turnPin ⟨Nat.le_of_ble_eq_true rfl, Nat.le_of_ble_eq_true rfl⟩ (recvK hK hW (al6 6 hiz1 (by decide)) (ct6 iz1) rfl) rfl hl.1 rfl (Nat.le_of_ble_eq_true rfl) dX4_pin_94 ⟨Nat.le_of_ble_eq_true rfl, Nat.le_of_ble_eq_true rfl⟩) hS (fun H locs hW hS => ?_)
          refine lv_aload hx hb dX4_pin_97 (lv_at hl 0 rfl) ?_
          refine get6 C0 hK hW iz1 (al6 6 hiz1 (by decide)) 8 (by decide) wFL_X4_150 rfl rfl dX4_pin_99 ?_
          cases hF
          exact retI C0 hr hlk hW hS dX4_pin_102
        · rw [if_pos c7] at hF
          refine lv_aload hx hb dX4_pin_70 (lv_at hl 0 rfl) ?_
          refine get6 C0 hK hW iz1 (al6 6 hiz1 (by decide)) 8 (by decide) wFL_X4_150 rfl rfl dX4_pin_72 ?_
          refine lv_bipush (v := 24) hx hb dX4_pin_75 (by decide) ?_
          refine lv_icmp_lt (tgt := 90) hx hb dX4_pin_77 (by decide) (fun c9 => ?_) (fun c9 => ?_)
          · rw [if_pos c9] at hF
            refine lv_aload hx hb dX4_pin_90 (lv_at hl 0 rfl) ?_
            refine lv_iload_n hx hb dX4_pin_92 rfl (lv_at hl 3 rfl) ?_
            refine lv_iload_n hx hb dX4_pin_93 rfl (lv_at hl 4 rfl) ?_
            obtain ⟨z10, hz10, hF⟩ := bnd hF
            refine inV (runV C0 hlo hK hZ hW hS (kX0_turnPin l lo g h _ iz1 a2 a3 hiz1 _ hz10) wCO_X0_turnPin wML_X4_155 wIM_X0_turnPin wSE_X0_X0_turnPin wIN_X0 hdX0_turnPin ⟨Nat.le_of_ble_eq_true rfl, Nat.le_of_ble_eq_true rfl⟩ (recvK hK hW (al6 6 hiz1 (by decide)) (ct6 iz1) rfl) rfl hl.1 rfl (Nat.le_of_ble_eq_true rfl) dX4_pin_94 ⟨Nat.le_of_ble_eq_true rfl, Nat.le_of_ble_eq_true rfl⟩) hS (fun H locs hW hS => ?_)
            refine lv_aload hx hb dX4_pin_97 (lv_at hl 0 rfl) ?_
            refine get6 C0 hK hW iz1 (al6 6 hiz1 (by decide)) 8 (by decide) wFL_X4_150 rfl rfl dX4_pin_99 ?_
            cases hF
            exact retI C0 hr hlk hW hS dX4_pin_102
          · rw [if_neg c9] at hF
            cases hF
      · rw [if_pos c5] at hF
        cases hF
    · rw [if_pos c3] at hF
      cases hF
theorem hdX4_tune : yX4_tune.cls = RX4 ∧ yX4_tune.cls ≠ "java/lang/invoke/MethodHandle" ∧ yX4_tune.cls ≠ "java/lang/invoke/VarHandle" ∧ (parseMethodDescriptor yX4_tune.desc).map (fun d => d.parameters.length) = some 3 := by decide +kernel
def FX4_tune (ns nb : Nat) (σ : Sg) (a1 : Int32) (a2 : Int32) (a3 : Int32) : Option ((Nat ⊕ Int32) × Sg) :=
  (FX4_birdAt ns nb σ a1).bind fun z1 => oc z1.1 (some (.inl 1, z1.2)) (fun iz1 => if iz1 < nb then ((FX4_isIn ns nb z1.2 a2 0 5).bind fun z2 => if z2.1 = 0 then (some (.inl 1, z2.2)) else ((FX4_isIn ns nb z2.2 a3 0 87).bind fun z4 => if z4.1 = 0 then (some (.inl 2, z4.2)) else ((FX4_at ns nb z4.2 8 iz1 a2).bind fun z6 => (FX4_put ns nb z6.2 8 iz1 a2 a3).bind fun z7 => some (.inr z6.1, z7)))) else none)
set_option maxHeartbeats 4000000 in
set_option maxRecDepth 100000 in
theorem nX4_tune (l : Launch) (lo : Nat) (g : Gx) (h : Sh) (σ : Sg) (a1 : Int32) (a2 : Int32) (a3 : Int32)  (r : Int32) (σ1 : Sg) (hF : FX4_tune h.1 h.2.1 σ a1 a2 a3 = some (.inr r, σ1)) : MI l yX4_tune (ws_ yX4_tune cX4_tune 6 (some .int)) 1 22 0 0 lo g h [.ref (h.2.2 0 0), .int a1, .int a2, .int a3] σ r σ1 := by
  refine ofB (own := RX4) (by decide +kernel) rfl (fun p e s m below meth c C0 hr hlk hlo hK hZ hW hS ls hl => ?_) (Nat.le_of_ble_eq_true rfl)
  have hx := C0.1
  have hb := C0.2.1
  have hl : lv_has ls 6 [(0, .ref (h.2.2 0 0)), (1, .int a1), (2, .int a2), (3, .int a3)] := hl
  unfold FX4_tune at hF
  refine lv_aload_n hx hb dX4_tune_0 rfl (lv_at hl 0 rfl) ?_
  refine lv_iload_n hx hb dX4_tune_1 rfl (lv_at hl 1 rfl) ?_
  obtain ⟨z1, hz1, hF⟩ := bnd hF
  refine inR (runV C0 hlo hK hZ hW hS (kX4_birdAt l lo g h _ a1  _ _ hz1) wCO_X4_birdAt wML_X4_122 wIM_X4_birdAt wSE_X4_X4_birdAt wIN_X4 hdX4_birdAt ⟨Nat.le_of_ble_eq_true rfl, Nat.le_of_ble_eq_true rfl⟩ (recvK hK hW (al0 h 0 (by decide)) (ct0 0) rfl) rfl hl.1 rfl (Nat.le_of_ble_eq_true rfl) dX4_tune_2 ⟨Nat.le_of_ble_eq_true rfl, Nat.le_of_ble_eq_true rfl⟩) hS (fun H locs hW hS => ?_)
  refine nspl (fun nz1 => ?_) (fun iz1 nz1 => ?_)
  · rw [nz1, oc_n] at hF
    refine lv_astoreN (lv' := [(4, .null), (0, .ref (h.2.2 0 0)), (1, .int a1), (2, .int a2), (3, .int a3)]) hx hb dX4_tune_5 hl (by decide) rfl (fun ls hl => ?_)
    refine lv_aloadN hx hb dX4_tune_7 (lv_at hl 0 rfl) ?_
    refine lv_ifnonnullN hx hb dX4_tune_9 ?_
    cases hF
  · rw [nz1, oc_s] at hF
    obtain ⟨hiz1, hF⟩ := grp hF
    refine lv_astore (lv' := [(4, .ref (h.2.2 6 iz1)), (0, .ref (h.2.2 0 0)), (1, .int a1), (2, .int a2), (3, .int a3)]) hx hb dX4_tune_5 hl (by decide) rfl (fun ls hl => ?_)
    refine lv_aload hx hb dX4_tune_7 (lv_at hl 0 rfl) ?_
    refine lv_ifnonnull (tgt := 22) hx hb dX4_tune_9 (by decide) ?_
    refine lv_iload_n hx hb dX4_tune_22 rfl (lv_at hl 3 rfl) ?_
    refine lv_iconst (v := 0) hx hb dX4_tune_23 (by decide) ?_
    refine lv_iconst (v := 5) hx hb dX4_tune_24 (by decide) ?_
    obtain ⟨z2, hz2, hF⟩ := bnd hF
    refine inI (runS C0 hlo hK hZ hW hS (kX4_isIn l lo g h _ a2 0 5  _ _ hz2) wCO_X4_isIn wML_X4_28 wST_X4_isIn wIN_X4 hdsX4_isIn ⟨Nat.le_of_ble_eq_true rfl, Nat.le_of_ble_eq_true rfl⟩ rfl hl.1 rfl (Nat.le_of_ble_eq_true rfl) dX4_tune_25 ⟨Nat.le_of_ble_eq_true rfl, Nat.le_of_ble_eq_true rfl⟩) hS (fun H locs hW hS => ?_)
    refine lv_if_ne (tgt := 41) hx hb dX4_tune_28 (by decide) (fun c3 => ?_) (fun c3 => ?_)
    · rw [if_neg c3] at hF
      refine lv_iload_n hx hb dX4_tune_41 rfl (lv_at hl 4 rfl) ?_
      refine lv_iconst (v := 0) hx hb dX4_tune_42 (by decide) ?_
      refine lv_bipush (v := 87) hx hb dX4_tune_43 (by decide) ?_
      obtain ⟨z4, hz4, hF⟩ := bnd hF
      refine inI (runS C0 hlo hK hZ hW hS (kX4_isIn l lo g h _ a3 0 87  _ _ hz4) wCO_X4_isIn wML_X4_28 wST_X4_isIn wIN_X4 hdsX4_isIn ⟨Nat.le_of_ble_eq_true rfl, Nat.le_of_ble_eq_true rfl⟩ rfl hl.1 rfl (Nat.le_of_ble_eq_true rfl) dX4_tune_45 ⟨Nat.le_of_ble_eq_true rfl, Nat.le_of_ble_eq_true rfl⟩) hS (fun H locs hW hS => ?_)
      refine lv_if_ne (tgt := 61) hx hb dX4_tune_48 (by decide) (fun c5 => ?_) (fun c5 => ?_)
      · rw [if_neg c5] at hF
        refine lv_aload hx hb dX4_tune_61 (lv_at hl 0 rfl) ?_
        refine get6 C0 hK hW iz1 (al6 6 hiz1 (by decide)) 6 (by decide) wFL_X4_161 rfl rfl dX4_tune_63 ?_
        refine lv_iload_n hx hb dX4_tune_66 rfl (lv_at hl 3 rfl) ?_
        obtain ⟨z6, hz6, hF⟩ := bnd hF
        refine inI (runS C0 hlo hK hZ hW hS (kX4_at l lo g h _ 8 iz1 a2 (al6 8 hiz1 (by decide)) (by decide) _ _ hz6) wCO_X4_at wML_X4_165 wST_X4_at wIN_X4 hdsX4_at ⟨Nat.le_of_ble_eq_true rfl, Nat.le_of_ble_eq_true rfl⟩ rfl hl.1 rfl (Nat.le_of_ble_eq_true rfl) dX4_tune_67 ⟨Nat.le_of_ble_eq_true rfl, Nat.le_of_ble_eq_true rfl⟩) hS (fun H locs hW hS => ?_)
        refine lv_istore (lv' := [(5, .int z6.1), (4, .ref (h.2.2 6 iz1)), (0, .ref (h.2.2 0 0)), (1, .int a1), (2, .int a2), (3, .int a3)]) hx hb dX4_tune_70 hl (by decide) rfl (fun ls hl => ?_)
        refine lv_aload hx hb dX4_tune_72 (lv_at hl 1 rfl) ?_
        refine get6 C0 hK hW iz1 (al6 6 hiz1 (by decide)) 6 (by decide) wFL_X4_161 rfl rfl dX4_tune_74 ?_
        refine lv_iload_n hx hb dX4_tune_77 rfl (lv_at hl 4 rfl) ?_
        refine lv_iload_n hx hb dX4_tune_78 rfl (lv_at hl 5 rfl) ?_
        obtain ⟨z7, hz7, hF⟩ := bnd hF
        refine inV (runS C0 hlo hK hZ hW hS (kX4_put l lo g h _ 8 iz1 a2 a3 (al6 8 hiz1 (by decide)) (by decide) _ hz7) wCO_X4_put wML_X4_169 wST_X4_put wIN_X4 hdsX4_put ⟨Nat.le_of_ble_eq_true rfl, Nat.le_of_ble_eq_true rfl⟩ rfl hl.1 rfl (Nat.le_of_ble_eq_true rfl) dX4_tune_79 ⟨Nat.le_of_ble_eq_true rfl, Nat.le_of_ble_eq_true rfl⟩) hS (fun H locs hW hS => ?_)
        refine lv_iload hx hb dX4_tune_82 (lv_at hl 0 rfl) ?_
        cases hF
        exact retI C0 hr hlk hW hS dX4_tune_84
      · rw [if_pos c5] at hF
        cases hF
    · rw [if_pos c3] at hF
      cases hF
theorem hdX4_point : yX4_point.cls = RX4 ∧ yX4_point.cls ≠ "java/lang/invoke/MethodHandle" ∧ yX4_point.cls ≠ "java/lang/invoke/VarHandle" ∧ (parseMethodDescriptor yX4_point.desc).map (fun d => d.parameters.length) = some 4 := by decide +kernel
def FX4_point (ns nb : Nat) (σ : Sg) (a1 : Int32) (a2 : Int32) (a3 : Int32) (a4 : Int32) : Option ((Nat ⊕ Int32) × Sg) :=
  (FX4_birdAt ns nb σ a1).bind fun z1 => oc z1.1 (some (.inl 1, z1.2)) (fun iz1 => if iz1 < nb then ((FX0_camAt ns nb z1.2 iz1 a2).bind fun z2 => oc z2.1 (some (.inl 1, z2.2)) (fun iz2 => if iz2 < 3 * nb then ((FX0_hasPlace ns nb z2.2 iz1 a3).bind fun z3 => if z3.1 = 0 then (some (.inl 2, z3.2)) else ((FX4_isIn ns nb z3.2 a4 (-1) 100).bind fun z5 => if z5.1 = 0 then (some (.inl 2, z5.2)) else ((FX1_hasPoint ns nb z5.2 iz2 a3).bind fun z7 => if a4 = (-1) then (if z7.1 = 0 then (some (.inl 3, z7.2)) else (if z7.1 = 0 then (if (z7.2.1 10 iz2 2) < 8 then (if a4 = (-1) then ((FX1_takePoint ns nb z7.2 iz2 a3 (z7.2.1 6 iz1 2)).bind fun z25 => some (.inr (z25.1 10 iz2 2), z25)) else ((FX1_layPoint ns nb z7.2 iz2 a3 a4 (z7.2.1 6 iz1 2)).bind fun z24 => some (.inr (z24.1 10 iz2 2), z24))) else (some (.inl 3, z7.2))) else (if a4 = (-1) then ((FX1_takePoint ns nb z7.2 iz2 a3 (z7.2.1 6 iz1 2)).bind fun z21 => some (.inr (z21.1 10 iz2 2), z21)) else ((FX1_layPoint ns nb z7.2 iz2 a3 a4 (z7.2.1 6 iz1 2)).bind fun z20 => some (.inr (z20.1 10 iz2 2), z20))))) else (if z7.1 = 0 then (if (z7.2.1 10 iz2 2) < 8 then (if a4 = (-1) then ((FX1_takePoint ns nb z7.2 iz2 a3 (z7.2.1 6 iz1 2)).bind fun z16 => some (.inr (z16.1 10 iz2 2), z16)) else ((FX1_layPoint ns nb z7.2 iz2 a3 a4 (z7.2.1 6 iz1 2)).bind fun z15 => some (.inr (z15.1 10 iz2 2), z15))) else (some (.inl 3, z7.2))) else (if a4 = (-1) then ((FX1_takePoint ns nb z7.2 iz2 a3 (z7.2.1 6 iz1 2)).bind fun z12 => some (.inr (z12.1 10 iz2 2), z12)) else ((FX1_layPoint ns nb z7.2 iz2 a3 a4 (z7.2.1 6 iz1 2)).bind fun z11 => some (.inr (z11.1 10 iz2 2), z11))))))) else none)) else none)
set_option maxHeartbeats 4000000 in
set_option maxRecDepth 100000 in
theorem nX4_point (l : Launch) (lo : Nat) (g : Gx) (h : Sh) (σ : Sg) (a1 : Int32) (a2 : Int32) (a3 : Int32) (a4 : Int32)  (r : Int32) (σ1 : Sg) (hF : FX4_point h.1 h.2.1 σ a1 a2 a3 a4 = some (.inr r, σ1)) : MI l yX4_point (ws_ yX4_point cX4_point 8 (some .int)) 5 113 0 0 lo g h [.ref (h.2.2 0 0), .int a1, .int a2, .int a3, .int a4] σ r σ1 := by
  refine ofB (own := RX4) (by decide +kernel) rfl (fun p e s m below meth c C0 hr hlk hlo hK hZ hW hS ls hl => ?_) (Nat.le_of_ble_eq_true rfl)
  have hx := C0.1
  have hb := C0.2.1
  have hl : lv_has ls 8 [(0, .ref (h.2.2 0 0)), (1, .int a1), (2, .int a2), (3, .int a3), (4, .int a4)] := hl
  unfold FX4_point at hF
  refine lv_aload_n hx hb dX4_point_0 rfl (lv_at hl 0 rfl) ?_
  refine lv_iload_n hx hb dX4_point_1 rfl (lv_at hl 1 rfl) ?_
  obtain ⟨z1, hz1, hF⟩ := bnd hF
  refine inR (runV C0 hlo hK hZ hW hS (kX4_birdAt l lo g h _ a1  _ _ hz1) wCO_X4_birdAt wML_X4_122 wIM_X4_birdAt wSE_X4_X4_birdAt wIN_X4 hdX4_birdAt ⟨Nat.le_of_ble_eq_true rfl, Nat.le_of_ble_eq_true rfl⟩ (recvK hK hW (al0 h 0 (by decide)) (ct0 0) rfl) rfl hl.1 rfl (Nat.le_of_ble_eq_true rfl) dX4_point_2 ⟨Nat.le_of_ble_eq_true rfl, Nat.le_of_ble_eq_true rfl⟩) hS (fun H locs hW hS => ?_)
  refine nspl (fun nz1 => ?_) (fun iz1 nz1 => ?_)
  · rw [nz1, oc_n] at hF
    refine lv_astoreN (lv' := [(5, .null), (0, .ref (h.2.2 0 0)), (1, .int a1), (2, .int a2), (3, .int a3), (4, .int a4)]) hx hb dX4_point_5 hl (by decide) rfl (fun ls hl => ?_)
    refine lv_aloadN hx hb dX4_point_7 (lv_at hl 0 rfl) ?_
    refine lv_ifnonnullN hx hb dX4_point_9 ?_
    refine lv_null hx hb dX4_point_12 ?_
    refine lv_goto (tgt := 22) hx hb dX4_point_13 (by decide) ?_
    refine lv_astoreN (lv' := [(6, .null), (5, .null), (0, .ref (h.2.2 0 0)), (1, .int a1), (2, .int a2), (3, .int a3), (4, .int a4)]) hx hb dX4_point_22 hl (by decide) rfl (fun ls hl => ?_)
    refine lv_aloadN hx hb dX4_point_24 (lv_at hl 1 rfl) ?_
    refine lv_ifnullN (tgt := 34) hx hb dX4_point_26 (by decide) ?_
    cases hF
  · rw [nz1, oc_s] at hF
    obtain ⟨hiz1, hF⟩ := grp hF
    refine lv_astore (lv' := [(5, .ref (h.2.2 6 iz1)), (0, .ref (h.2.2 0 0)), (1, .int a1), (2, .int a2), (3, .int a3), (4, .int a4)]) hx hb dX4_point_5 hl (by decide) rfl (fun ls hl => ?_)
    refine lv_aload hx hb dX4_point_7 (lv_at hl 0 rfl) ?_
    refine lv_ifnonnull (tgt := 16) hx hb dX4_point_9 (by decide) ?_
    refine lv_aload hx hb dX4_point_16 (lv_at hl 0 rfl) ?_
    refine lv_iload_n hx hb dX4_point_18 rfl (lv_at hl 3 rfl) ?_
    obtain ⟨z2, hz2, hF⟩ := bnd hF
    refine inR (runV C0 hlo hK hZ hW hS (kX0_camAt l lo g h _ iz1 a2 hiz1 _ _ hz2) wCO_X0_camAt wML_X4_173 wIM_X0_camAt wSE_X0_X0_camAt wIN_X0 hdX0_camAt ⟨Nat.le_of_ble_eq_true rfl, Nat.le_of_ble_eq_true rfl⟩ (recvK hK hW (al6 6 hiz1 (by decide)) (ct6 iz1) rfl) rfl hl.1 rfl (Nat.le_of_ble_eq_true rfl) dX4_point_19 ⟨Nat.le_of_ble_eq_true rfl, Nat.le_of_ble_eq_true rfl⟩) hS (fun H locs hW hS => ?_)
    refine nspl (fun nz2 => ?_) (fun iz2 nz2 => ?_)
    · rw [nz2, oc_n] at hF
      refine lv_astoreN (lv' := [(6, .null), (5, .ref (h.2.2 6 iz1)), (0, .ref (h.2.2 0 0)), (1, .int a1), (2, .int a2), (3, .int a3), (4, .int a4)]) hx hb dX4_point_22 hl (by decide) rfl (fun ls hl => ?_)
      refine lv_aload hx hb dX4_point_24 (lv_at hl 1 rfl) ?_
      refine lv_ifnull hx hb dX4_point_26 ?_
      refine lv_aloadN hx hb dX4_point_29 (lv_at hl 0 rfl) ?_
      refine lv_ifnonnullN hx hb dX4_point_31 ?_
      cases hF
    · rw [nz2, oc_s] at hF
      obtain ⟨hiz2, hF⟩ := grp hF
      refine lv_astore (lv' := [(6, .ref (h.2.2 10 iz2)), (5, .ref (h.2.2 6 iz1)), (0, .ref (h.2.2 0 0)), (1, .int a1), (2, .int a2), (3, .int a3), (4, .int a4)]) hx hb dX4_point_22 hl (by decide) rfl (fun ls hl => ?_)
      refine lv_aload hx hb dX4_point_24 (lv_at hl 1 rfl) ?_
      refine lv_ifnull hx hb dX4_point_26 ?_
      refine lv_aload hx hb dX4_point_29 (lv_at hl 0 rfl) ?_
      refine lv_ifnonnull (tgt := 44) hx hb dX4_point_31 (by decide) ?_
      refine lv_aload hx hb dX4_point_44 (lv_at hl 1 rfl) ?_
      refine lv_iload_n hx hb dX4_point_46 rfl (lv_at hl 5 rfl) ?_
      obtain ⟨z3, hz3, hF⟩ := bnd hF
      refine inI (runV C0 hlo hK hZ hW hS (kX0_hasPlace l lo g h _ iz1 a3 hiz1 _ _ hz3) wCO_X0_hasPlace wML_X4_138 wIM_X0_hasPlace wSE_X0_X0_hasPlace wIN_X0 hdX0_hasPlace ⟨Nat.le_of_ble_eq_true rfl, Nat.le_of_ble_eq_true rfl⟩ (recvK hK hW (al6 6 hiz1 (by decide)) (ct6 iz1) rfl) rfl hl.1 rfl (Nat.le_of_ble_eq_true rfl) dX4_point_47 ⟨Nat.le_of_ble_eq_true rfl, Nat.le_of_ble_eq_true rfl⟩) hS (fun H locs hW hS => ?_)
      refine lv_if_ne (tgt := 63) hx hb dX4_point_50 (by decide) (fun c4 => ?_) (fun c4 => ?_)
      · rw [if_neg c4] at hF
        refine lv_iload hx hb dX4_point_63 (lv_at hl 6 rfl) ?_
        refine lv_iconst (v := (-1)) hx hb dX4_point_65 (by decide) ?_
        refine lv_bipush (v := 100) hx hb dX4_point_66 (by decide) ?_
        obtain ⟨z5, hz5, hF⟩ := bnd hF
        refine inI (runS C0 hlo hK hZ hW hS (kX4_isIn l lo g h _ a4 (-1) 100  _ _ hz5) wCO_X4_isIn wML_X4_28 wST_X4_isIn wIN_X4 hdsX4_isIn ⟨Nat.le_of_ble_eq_true rfl, Nat.le_of_ble_eq_true rfl⟩ rfl hl.1 rfl (Nat.le_of_ble_eq_true rfl) dX4_point_68 ⟨Nat.le_of_ble_eq_true rfl, Nat.le_of_ble_eq_true rfl⟩) hS (fun H locs hW hS => ?_)
        refine lv_if_ne (tgt := 84) hx hb dX4_point_71 (by decide) (fun c6 => ?_) (fun c6 => ?_)
        · rw [if_neg c6] at hF
          refine lv_aload hx hb dX4_point_84 (lv_at hl 0 rfl) ?_
          refine lv_iload_n hx hb dX4_point_86 rfl (lv_at hl 5 rfl) ?_
          obtain ⟨z7, hz7, hF⟩ := bnd hF
          refine inI (runV C0 hlo hK hZ hW hS (kX1_hasPoint l lo g h _ iz2 a3 hiz2 _ _ hz7) wCO_X1_hasPoint wML_X4_181 wIM_X1_hasPoint wSE_X1_X1_hasPoint wIN_X1 hdX1_hasPoint ⟨Nat.le_of_ble_eq_true rfl, Nat.le_of_ble_eq_true rfl⟩ (recvK hK hW (al10 10 hiz2 (by decide)) (ct10 iz2) rfl) rfl hl.1 rfl (Nat.le_of_ble_eq_true rfl) dX4_point_87 ⟨Nat.le_of_ble_eq_true rfl, Nat.le_of_ble_eq_true rfl⟩) hS (fun H locs hW hS => ?_)
          refine lv_istore (lv' := [(7, .int z7.1), (6, .ref (h.2.2 10 iz2)), (5, .ref (h.2.2 6 iz1)), (0, .ref (h.2.2 0 0)), (1, .int a1), (2, .int a2), (3, .int a3), (4, .int a4)]) hx hb dX4_point_90 hl (by decide) rfl (fun ls hl => ?_)
          refine lv_iload hx hb dX4_point_92 (lv_at hl 7 rfl) ?_
          refine lv_iconst (v := (-1)) hx hb dX4_point_94 (by decide) ?_
          refine lv_icmp_ne (tgt := 113) hx hb dX4_point_95 (by decide) (fun c8 => ?_) (fun c8 => ?_)
          · rw [if_neg c8] at hF
            refine lv_iload hx hb dX4_point_113 (lv_at hl 0 rfl) ?_
            refine lv_if_ne (tgt := 138) hx hb dX4_point_115 (by decide) (fun c9 => ?_) (fun c9 => ?_)
            · rw [if_neg c9] at hF
              refine lv_iload hx hb dX4_point_138 (lv_at hl 7 rfl) ?_
              refine lv_iconst (v := (-1)) hx hb dX4_point_140 (by decide) ?_
              refine lv_icmp_ne (tgt := 158) hx hb dX4_point_141 (by decide) (fun c10 => ?_) (fun c10 => ?_)
              · rw [if_neg c10] at hF
                refine lv_aload hx hb dX4_point_158 (lv_at hl 1 rfl) ?_
                refine lv_iload_n hx hb dX4_point_160 rfl (lv_at hl 6 rfl) ?_
                refine lv_iload hx hb dX4_point_161 (lv_at hl 7 rfl) ?_
                refine lv_aload hx hb dX4_point_163 (lv_at hl 2 rfl) ?_
                refine get6 C0 hK hW iz1 (al6 6 hiz1 (by decide)) 2 (by decide) wFL_X4_193 rfl rfl dX4_point_165 ?_
                obtain ⟨z11, hz11, hF⟩ := bnd hF
                refine inV (runV C0 hlo hK hZ hW hS (kX1_layPoint l lo g h _ iz2 a3 a4 (z7.2.1 6 iz1 2) hiz2 _ hz11) wCO_X1_layPoint wML_X4_199 wIM_X1_layPoint wSE_X1_X1_layPoint wIN_X1 hdX1_layPoint ⟨Nat.le_of_ble_eq_true rfl, Nat.le_of_ble_eq_true rfl⟩ (recvK hK hW (al10 10 hiz2 (by decide)) (ct10 iz2) rfl) rfl hl.1 rfl (Nat.le_of_ble_eq_true rfl) dX4_point_168 ⟨Nat.le_of_ble_eq_true rfl, Nat.le_of_ble_eq_true rfl⟩) hS (fun H locs hW hS => ?_)
                refine lv_aload hx hb dX4_point_171 (lv_at hl 1 rfl) ?_
                refine get10 C0 hK hW iz2 (al10 10 hiz2 (by decide)) 2 (by decide) wFL_X4_188 rfl rfl dX4_point_173 ?_
                cases hF
                exact retI C0 hr hlk hW hS dX4_point_176
              · rw [if_pos c10] at hF
                refine lv_aload hx hb dX4_point_144 (lv_at hl 1 rfl) ?_
                refine lv_iload_n hx hb dX4_point_146 rfl (lv_at hl 6 rfl) ?_
                refine lv_aload hx hb dX4_point_147 (lv_at hl 2 rfl) ?_
                refine get6 C0 hK hW iz1 (al6 6 hiz1 (by decide)) 2 (by decide) wFL_X4_193 rfl rfl dX4_point_149 ?_
                obtain ⟨z12, hz12, hF⟩ := bnd hF
                refine inV (runV C0 hlo hK hZ hW hS (kX1_takePoint l lo g h _ iz2 a3 (z7.2.1 6 iz1 2) hiz2 _ hz12) wCO_X1_takePoint wML_X4_196 wIM_X1_takePoint wSE_X1_X1_takePoint wIN_X1 hdX1_takePoint ⟨Nat.le_of_ble_eq_true rfl, Nat.le_of_ble_eq_true rfl⟩ (recvK hK hW (al10 10 hiz2 (by decide)) (ct10 iz2) rfl) rfl hl.1 rfl (Nat.le_of_ble_eq_true rfl) dX4_point_152 ⟨Nat.le_of_ble_eq_true rfl, Nat.le_of_ble_eq_true rfl⟩) hS (fun H locs hW hS => ?_)
                refine lv_goto (tgt := 171) hx hb dX4_point_155 (by decide) ?_
                refine lv_aload hx hb dX4_point_171 (lv_at hl 1 rfl) ?_
                refine get10 C0 hK hW iz2 (al10 10 hiz2 (by decide)) 2 (by decide) wFL_X4_188 rfl rfl dX4_point_173 ?_
                cases hF
                exact retI C0 hr hlk hW hS dX4_point_176
            · rw [if_pos c9] at hF
              refine lv_aload hx hb dX4_point_118 (lv_at hl 1 rfl) ?_
              refine get10 C0 hK hW iz2 (al10 10 hiz2 (by decide)) 2 (by decide) wFL_X4_188 rfl rfl dX4_point_120 ?_
              refine lv_bipush (v := 8) hx hb dX4_point_123 (by decide) ?_
              refine lv_icmp_lt (tgt := 138) hx hb dX4_point_125 (by decide) (fun c13 => ?_) (fun c13 => ?_)
              · rw [if_pos c13] at hF
                refine lv_iload hx hb dX4_point_138 (lv_at hl 7 rfl) ?_
                refine lv_iconst (v := (-1)) hx hb dX4_point_140 (by decide) ?_
                refine lv_icmp_ne (tgt := 158) hx hb dX4_point_141 (by decide) (fun c14 => ?_) (fun c14 => ?_)
                · rw [if_neg c14] at hF
                  refine lv_aload hx hb dX4_point_158 (lv_at hl 1 rfl) ?_
                  refine lv_iload_n hx hb dX4_point_160 rfl (lv_at hl 6 rfl) ?_
                  refine lv_iload hx hb dX4_point_161 (lv_at hl 7 rfl) ?_
                  refine lv_aload hx hb dX4_point_163 (lv_at hl 2 rfl) ?_
                  refine get6 C0 hK hW iz1 (al6 6 hiz1 (by decide)) 2 (by decide) wFL_X4_193 rfl rfl dX4_point_165 ?_
                  obtain ⟨z15, hz15, hF⟩ := bnd hF
                  refine inV (runV C0 hlo hK hZ hW hS (kX1_layPoint l lo g h _ iz2 a3 a4 (z7.2.1 6 iz1 2) hiz2 _ hz15) wCO_X1_layPoint wML_X4_199 wIM_X1_layPoint wSE_X1_X1_layPoint wIN_X1 hdX1_layPoint ⟨Nat.le_of_ble_eq_true rfl, Nat.le_of_ble_eq_true rfl⟩ (recvK hK hW (al10 10 hiz2 (by decide)) (ct10 iz2) rfl) rfl hl.1 rfl (Nat.le_of_ble_eq_true rfl) dX4_point_168 ⟨Nat.le_of_ble_eq_true rfl, Nat.le_of_ble_eq_true rfl⟩) hS (fun H locs hW hS => ?_)
                  refine lv_aload hx hb dX4_point_171 (lv_at hl 1 rfl) ?_
                  refine get10 C0 hK hW iz2 (al10 10 hiz2 (by decide)) 2 (by decide) wFL_X4_188 rfl rfl dX4_point_173 ?_
                  cases hF
                  exact retI C0 hr hlk hW hS dX4_point_176
                · rw [if_pos c14] at hF
                  refine lv_aload hx hb dX4_point_144 (lv_at hl 1 rfl) ?_
                  refine lv_iload_n hx hb dX4_point_146 rfl (lv_at hl 6 rfl) ?_
                  refine lv_aload hx hb dX4_point_147 (lv_at hl 2 rfl) ?_
                  refine get6 C0 hK hW iz1 (al6 6 hiz1 (by decide)) 2 (by decide) wFL_X4_193 rfl rfl dX4_point_149 ?_
                  obtain ⟨z16, hz16, hF⟩ := bnd hF
                  refine inV (runV C0 hlo hK hZ hW hS (kX1_takePoint l lo g h _ iz2 a3 (z7.2.1 6 iz1 2) hiz2 _ hz16) wCO_X1_takePoint wML_X4_196 wIM_X1_takePoint wSE_X1_X1_takePoint wIN_X1 hdX1_takePoint ⟨Nat.le_of_ble_eq_true rfl, Nat.le_of_ble_eq_true rfl⟩ (recvK hK hW (al10 10 hiz2 (by decide)) (ct10 iz2) rfl) rfl hl.1 rfl (Nat.le_of_ble_eq_true rfl) dX4_point_152 ⟨Nat.le_of_ble_eq_true rfl, Nat.le_of_ble_eq_true rfl⟩) hS (fun H locs hW hS => ?_)
                  refine lv_goto (tgt := 171) hx hb dX4_point_155 (by decide) ?_
                  refine lv_aload hx hb dX4_point_171 (lv_at hl 1 rfl) ?_
                  refine get10 C0 hK hW iz2 (al10 10 hiz2 (by decide)) 2 (by decide) wFL_X4_188 rfl rfl dX4_point_173 ?_
                  cases hF
                  exact retI C0 hr hlk hW hS dX4_point_176
              · rw [if_neg c13] at hF
                cases hF
          · rw [if_pos c8] at hF
            refine lv_iload hx hb dX4_point_98 (lv_at hl 0 rfl) ?_
            refine lv_if_ne (tgt := 113) hx hb dX4_point_100 (by decide) (fun c17 => ?_) (fun c17 => ?_)
            · rw [if_neg c17] at hF
              refine lv_iload hx hb dX4_point_113 (lv_at hl 0 rfl) ?_
              refine lv_if_ne (tgt := 138) hx hb dX4_point_115 (by decide) (fun c18 => ?_) (fun c18 => ?_)
              · rw [if_neg c18] at hF
                refine lv_iload hx hb dX4_point_138 (lv_at hl 7 rfl) ?_
                refine lv_iconst (v := (-1)) hx hb dX4_point_140 (by decide) ?_
                refine lv_icmp_ne (tgt := 158) hx hb dX4_point_141 (by decide) (fun c19 => ?_) (fun c19 => ?_)
                · rw [if_neg c19] at hF
                  refine lv_aload hx hb dX4_point_158 (lv_at hl 1 rfl) ?_
                  refine lv_iload_n hx hb dX4_point_160 rfl (lv_at hl 6 rfl) ?_
                  refine lv_iload hx hb dX4_point_161 (lv_at hl 7 rfl) ?_
                  refine lv_aload hx hb dX4_point_163 (lv_at hl 2 rfl) ?_
                  refine get6 C0 hK hW iz1 (al6 6 hiz1 (by decide)) 2 (by decide) wFL_X4_193 rfl rfl dX4_point_165 ?_
                  obtain ⟨z20, hz20, hF⟩ := bnd hF
                  refine inV (runV C0 hlo hK hZ hW hS (kX1_layPoint l lo g h _ iz2 a3 a4 (z7.2.1 6 iz1 2) hiz2 _ hz20) wCO_X1_layPoint wML_X4_199 wIM_X1_layPoint wSE_X1_X1_layPoint wIN_X1 hdX1_layPoint ⟨Nat.le_of_ble_eq_true rfl, Nat.le_of_ble_eq_true rfl⟩ (recvK hK hW (al10 10 hiz2 (by decide)) (ct10 iz2) rfl) rfl hl.1 rfl (Nat.le_of_ble_eq_true rfl) dX4_point_168 ⟨Nat.le_of_ble_eq_true rfl, Nat.le_of_ble_eq_true rfl⟩) hS (fun H locs hW hS => ?_)
                  refine lv_aload hx hb dX4_point_171 (lv_at hl 1 rfl) ?_
                  refine get10 C0 hK hW iz2 (al10 10 hiz2 (by decide)) 2 (by decide) wFL_X4_188 rfl rfl dX4_point_173 ?_
                  cases hF
                  exact retI C0 hr hlk hW hS dX4_point_176
                · rw [if_pos c19] at hF
                  refine lv_aload hx hb dX4_point_144 (lv_at hl 1 rfl) ?_
                  refine lv_iload_n hx hb dX4_point_146 rfl (lv_at hl 6 rfl) ?_
                  refine lv_aload hx hb dX4_point_147 (lv_at hl 2 rfl) ?_
                  refine get6 C0 hK hW iz1 (al6 6 hiz1 (by decide)) 2 (by decide) wFL_X4_193 rfl rfl dX4_point_149 ?_
                  obtain ⟨z21, hz21, hF⟩ := bnd hF
                  refine inV (runV C0 hlo hK hZ hW hS (kX1_takePoint l lo g h _ iz2 a3 (z7.2.1 6 iz1 2) hiz2 _ hz21) wCO_X1_takePoint wML_X4_196 wIM_X1_takePoint wSE_X1_X1_takePoint wIN_X1 hdX1_takePoint ⟨Nat.le_of_ble_eq_true rfl, Nat.le_of_ble_eq_true rfl⟩ (recvK hK hW (al10 10 hiz2 (by decide)) (ct10 iz2) rfl) rfl hl.1 rfl (Nat.le_of_ble_eq_true rfl) dX4_point_152 ⟨Nat.le_of_ble_eq_true rfl, Nat.le_of_ble_eq_true rfl⟩) hS (fun H locs hW hS => ?_)
                  refine lv_goto (tgt := 171) hx hb dX4_point_155 (by decide) ?_
                  refine lv_aload hx hb dX4_point_171 (lv_at hl 1 rfl) ?_
                  refine get10 C0 hK hW iz2 (al10 10 hiz2 (by decide)) 2 (by decide) wFL_X4_188 rfl rfl dX4_point_173 ?_
                  cases hF
                  exact retI C0 hr hlk hW hS dX4_point_176
              · rw [if_pos c18] at hF
                refine lv_aload hx hb dX4_point_118 (lv_at hl 1 rfl) ?_
                refine get10 C0 hK hW iz2 (al10 10 hiz2 (by decide)) 2 (by decide) wFL_X4_188 rfl rfl dX4_point_120 ?_
                refine lv_bipush (v := 8) hx hb dX4_point_123 (by decide) ?_
                refine lv_icmp_lt (tgt := 138) hx hb dX4_point_125 (by decide) (fun c22 => ?_) (fun c22 => ?_)
                · rw [if_pos c22] at hF
                  refine lv_iload hx hb dX4_point_138 (lv_at hl 7 rfl) ?_
                  refine lv_iconst (v := (-1)) hx hb dX4_point_140 (by decide) ?_
                  refine lv_icmp_ne (tgt := 158) hx hb dX4_point_141 (by decide) (fun c23 => ?_) (fun c23 => ?_)
                  · rw [if_neg c23] at hF
                    refine lv_aload hx hb dX4_point_158 (lv_at hl 1 rfl) ?_
                    refine lv_iload_n hx hb dX4_point_160 rfl (lv_at hl 6 rfl) ?_
                    refine lv_iload hx hb dX4_point_161 (lv_at hl 7 rfl) ?_
                    refine lv_aload hx hb dX4_point_163 (lv_at hl 2 rfl) ?_
                    refine get6 C0 hK hW iz1 (al6 6 hiz1 (by decide)) 2 (by decide) wFL_X4_193 rfl rfl dX4_point_165 ?_
                    obtain ⟨z24, hz24, hF⟩ := bnd hF
                    refine inV (runV C0 hlo hK hZ hW hS (kX1_layPoint l lo g h _ iz2 a3 a4 (z7.2.1 6 iz1 2) hiz2 _ hz24) wCO_X1_layPoint wML_X4_199 wIM_X1_layPoint wSE_X1_X1_layPoint wIN_X1 hdX1_layPoint ⟨Nat.le_of_ble_eq_true rfl, Nat.le_of_ble_eq_true rfl⟩ (recvK hK hW (al10 10 hiz2 (by decide)) (ct10 iz2) rfl) rfl hl.1 rfl (Nat.le_of_ble_eq_true rfl) dX4_point_168 ⟨Nat.le_of_ble_eq_true rfl, Nat.le_of_ble_eq_true rfl⟩) hS (fun H locs hW hS => ?_)
                    refine lv_aload hx hb dX4_point_171 (lv_at hl 1 rfl) ?_
                    refine get10 C0 hK hW iz2 (al10 10 hiz2 (by decide)) 2 (by decide) wFL_X4_188 rfl rfl dX4_point_173 ?_
                    cases hF
                    exact retI C0 hr hlk hW hS dX4_point_176
                  · rw [if_pos c23] at hF
                    refine lv_aload hx hb dX4_point_144 (lv_at hl 1 rfl) ?_
                    refine lv_iload_n hx hb dX4_point_146 rfl (lv_at hl 6 rfl) ?_
                    refine lv_aload hx hb dX4_point_147 (lv_at hl 2 rfl) ?_
                    refine get6 C0 hK hW iz1 (al6 6 hiz1 (by decide)) 2 (by decide) wFL_X4_193 rfl rfl dX4_point_149 ?_
                    obtain ⟨z25, hz25, hF⟩ := bnd hF
                    refine inV (runV C0 hlo hK hZ hW hS (kX1_takePoint l lo g h _ iz2 a3 (z7.2.1 6 iz1 2) hiz2 _ hz25) wCO_X1_takePoint wML_X4_196 wIM_X1_takePoint wSE_X1_X1_takePoint wIN_X1 hdX1_takePoint ⟨Nat.le_of_ble_eq_true rfl, Nat.le_of_ble_eq_true rfl⟩ (recvK hK hW (al10 10 hiz2 (by decide)) (ct10 iz2) rfl) rfl hl.1 rfl (Nat.le_of_ble_eq_true rfl) dX4_point_152 ⟨Nat.le_of_ble_eq_true rfl, Nat.le_of_ble_eq_true rfl⟩) hS (fun H locs hW hS => ?_)
                    refine lv_goto (tgt := 171) hx hb dX4_point_155 (by decide) ?_
                    refine lv_aload hx hb dX4_point_171 (lv_at hl 1 rfl) ?_
                    refine get10 C0 hK hW iz2 (al10 10 hiz2 (by decide)) 2 (by decide) wFL_X4_188 rfl rfl dX4_point_173 ?_
                    cases hF
                    exact retI C0 hr hlk hW hS dX4_point_176
                · rw [if_neg c22] at hF
                  cases hF
            · rw [if_pos c17] at hF
              cases hF
        · rw [if_pos c6] at hF
          cases hF
      · rw [if_pos c4] at hF
        cases hF
theorem hdX4_bird : yX4_bird.cls = RX4 ∧ yX4_bird.cls ≠ "java/lang/invoke/MethodHandle" ∧ yX4_bird.cls ≠ "java/lang/invoke/VarHandle" ∧ (parseMethodDescriptor yX4_bird.desc).map (fun d => d.parameters.length) = some 2 := by decide +kernel
def FX4_bird (ns nb : Nat) (σ : Sg) (a1 : Int32) (a2 : Int32) : Option ((Nat ⊕ Int32) × Sg) :=
  (FX4_birdAt ns nb σ a1).bind fun z1 => oc z1.1 (some (.inl 1, z1.2)) (fun iz1 => if iz1 < nb then (if a2 = 0 then (some (.inr (z1.2.1 6 iz1 0), z1.2)) else (if a2 = 1 then (some (.inr (z1.2.1 6 iz1 1), z1.2)) else (if a2 = 2 then (some (.inr (z1.2.1 6 iz1 2), z1.2)) else (if a2 = 3 then (some (.inr (z1.2.1 6 iz1 3), z1.2)) else (if a2 = 4 then (some (.inr (z1.2.1 6 iz1 4), z1.2)) else (if a2 = 5 then ((FX0_placeNow ns nb z1.2 iz1).bind fun z7 => some (.inr z7.1, z7.2)) else (if a2 = 6 then (if (z1.2.1 6 iz1 9) = 0 then (some (.inr 0, z1.2)) else (some (.inr 1, z1.2))) else (if a2 = 7 then (some (.inr (z1.2.1 6 iz1 8), z1.2)) else (if a2 = 8 then (some (.inr ((z1.2.2 6 iz1 11).toInt32), z1.2)) else (if a2 = 9 then (some (.inr (z1.2.1 6 iz1 12), z1.2)) else (some (.inl 1, z1.2)))))))))))) else none)
set_option maxHeartbeats 4000000 in
set_option maxRecDepth 100000 in
theorem nX4_bird (l : Launch) (lo : Nat) (g : Gx) (h : Sh) (σ : Sg) (a1 : Int32) (a2 : Int32)  (r : Int32) (σ1 : Sg) (hF : FX4_bird h.1 h.2.1 σ a1 a2 = some (.inr r, σ1)) : MI l yX4_bird (ws_ yX4_bird cX4_bird 4 (some .int)) 2 42 0 0 lo g h [.ref (h.2.2 0 0), .int a1, .int a2] σ r σ1 := by
  refine ofB (own := RX4) (by decide +kernel) rfl (fun p e s m below meth c C0 hr hlk hlo hK hZ hW hS ls hl => ?_) (Nat.le_of_ble_eq_true rfl)
  have hx := C0.1
  have hb := C0.2.1
  have hl : lv_has ls 4 [(0, .ref (h.2.2 0 0)), (1, .int a1), (2, .int a2)] := hl
  unfold FX4_bird at hF
  refine lv_aload_n hx hb dX4_bird_0 rfl (lv_at hl 0 rfl) ?_
  refine lv_iload_n hx hb dX4_bird_1 rfl (lv_at hl 1 rfl) ?_
  obtain ⟨z1, hz1, hF⟩ := bnd hF
  refine inR (runV C0 hlo hK hZ hW hS (kX4_birdAt l lo g h _ a1  _ _ hz1) wCO_X4_birdAt wML_X4_122 wIM_X4_birdAt wSE_X4_X4_birdAt wIN_X4 hdX4_birdAt ⟨Nat.le_of_ble_eq_true rfl, Nat.le_of_ble_eq_true rfl⟩ (recvK hK hW (al0 h 0 (by decide)) (ct0 0) rfl) rfl hl.1 rfl (Nat.le_of_ble_eq_true rfl) dX4_bird_2 ⟨Nat.le_of_ble_eq_true rfl, Nat.le_of_ble_eq_true rfl⟩) hS (fun H locs hW hS => ?_)
  refine nspl (fun nz1 => ?_) (fun iz1 nz1 => ?_)
  · rw [nz1, oc_n] at hF
    refine lv_astore_nN (lv' := [(3, .null), (0, .ref (h.2.2 0 0)), (1, .int a1), (2, .int a2)]) hx hb dX4_bird_5 rfl hl (by decide) rfl (fun ls hl => ?_)
    refine lv_aload_nN hx hb dX4_bird_6 rfl (lv_at hl 0 rfl) ?_
    refine lv_ifnonnullN hx hb dX4_bird_7 ?_
    cases hF
  · rw [nz1, oc_s] at hF
    obtain ⟨hiz1, hF⟩ := grp hF
    refine lv_astore_n (lv' := [(3, .ref (h.2.2 6 iz1)), (0, .ref (h.2.2 0 0)), (1, .int a1), (2, .int a2)]) hx hb dX4_bird_5 rfl hl (by decide) rfl (fun ls hl => ?_)
    refine lv_aload_n hx hb dX4_bird_6 rfl (lv_at hl 0 rfl) ?_
    refine lv_ifnonnull (tgt := 20) hx hb dX4_bird_7 (by decide) ?_
    refine lv_iload_n hx hb dX4_bird_20 rfl (lv_at hl 3 rfl) ?_
    by_cases c2 : a2 = 0
    · rw [if_pos c2] at hF
      refine lv_tableIn (tgt := 76) (off := 55) hx hb dX4_bird_21 (by rw [c2]; decide) (by rw [c2]; decide) (by rw [c2]; decide) (by decide) ?_
      refine lv_aload_n hx hb dX4_bird_76 rfl (lv_at hl 0 rfl) ?_
      refine get6 C0 hK hW iz1 (al6 6 hiz1 (by decide)) 0 (by decide) wFL_X4_131 rfl rfl dX4_bird_77 ?_
      cases hF
      exact retI C0 hr hlk hW hS dX4_bird_80
    · rw [if_neg c2] at hF
      by_cases c3 : a2 = 1
      · rw [if_pos c3] at hF
        refine lv_tableIn (tgt := 81) (off := 60) hx hb dX4_bird_21 (by rw [c3]; decide) (by rw [c3]; decide) (by rw [c3]; decide) (by decide) ?_
        refine lv_aload_n hx hb dX4_bird_81 rfl (lv_at hl 0 rfl) ?_
        refine get6 C0 hK hW iz1 (al6 6 hiz1 (by decide)) 1 (by decide) wFL_X4_203 rfl rfl dX4_bird_82 ?_
        cases hF
        exact retI C0 hr hlk hW hS dX4_bird_85
      · rw [if_neg c3] at hF
        by_cases c4 : a2 = 2
        · rw [if_pos c4] at hF
          refine lv_tableIn (tgt := 86) (off := 65) hx hb dX4_bird_21 (by rw [c4]; decide) (by rw [c4]; decide) (by rw [c4]; decide) (by decide) ?_
          refine lv_aload_n hx hb dX4_bird_86 rfl (lv_at hl 0 rfl) ?_
          refine get6 C0 hK hW iz1 (al6 6 hiz1 (by decide)) 2 (by decide) wFL_X4_193 rfl rfl dX4_bird_87 ?_
          cases hF
          exact retI C0 hr hlk hW hS dX4_bird_90
        · rw [if_neg c4] at hF
          by_cases c5 : a2 = 3
          · rw [if_pos c5] at hF
            refine lv_tableIn (tgt := 91) (off := 70) hx hb dX4_bird_21 (by rw [c5]; decide) (by rw [c5]; decide) (by rw [c5]; decide) (by decide) ?_
            refine lv_aload_n hx hb dX4_bird_91 rfl (lv_at hl 0 rfl) ?_
            refine get6 C0 hK hW iz1 (al6 6 hiz1 (by decide)) 3 (by decide) wFL_X4_206 rfl rfl dX4_bird_92 ?_
            cases hF
            exact retI C0 hr hlk hW hS dX4_bird_95
          · rw [if_neg c5] at hF
            by_cases c6 : a2 = 4
            · rw [if_pos c6] at hF
              refine lv_tableIn (tgt := 96) (off := 75) hx hb dX4_bird_21 (by rw [c6]; decide) (by rw [c6]; decide) (by rw [c6]; decide) (by decide) ?_
              refine lv_aload_n hx hb dX4_bird_96 rfl (lv_at hl 0 rfl) ?_
              refine get6 C0 hK hW iz1 (al6 6 hiz1 (by decide)) 4 (by decide) wFL_X4_209 rfl rfl dX4_bird_97 ?_
              cases hF
              exact retI C0 hr hlk hW hS dX4_bird_100
            · rw [if_neg c6] at hF
              by_cases c8 : a2 = 5
              · rw [if_pos c8] at hF
                refine lv_tableIn (tgt := 101) (off := 80) hx hb dX4_bird_21 (by rw [c8]; decide) (by rw [c8]; decide) (by rw [c8]; decide) (by decide) ?_
                refine lv_aload_n hx hb dX4_bird_101 rfl (lv_at hl 0 rfl) ?_
                obtain ⟨z7, hz7, hF⟩ := bnd hF
                refine inI (runV C0 hlo hK hZ hW hS (kX0_placeNow l lo g h _ iz1 hiz1 _ _ hz7) wCO_X0_placeNow wML_X4_212 wIM_X0_placeNow wSE_X0_X0_placeNow wIN_X0 hdX0_placeNow ⟨Nat.le_of_ble_eq_true rfl, Nat.le_of_ble_eq_true rfl⟩ (recvK hK hW (al6 6 hiz1 (by decide)) (ct6 iz1) rfl) rfl hl.1 rfl (Nat.le_of_ble_eq_true rfl) dX4_bird_102 ⟨Nat.le_of_ble_eq_true rfl, Nat.le_of_ble_eq_true rfl⟩) hS (fun H locs hW hS => ?_)
                cases hF
                exact retI C0 hr hlk hW hS dX4_bird_105
              · rw [if_neg c8] at hF
                by_cases c10 : a2 = 6
                · rw [if_pos c10] at hF
                  refine lv_tableIn (tgt := 106) (off := 85) hx hb dX4_bird_21 (by rw [c10]; decide) (by rw [c10]; decide) (by rw [c10]; decide) (by decide) ?_
                  refine lv_aload_n hx hb dX4_bird_106 rfl (lv_at hl 0 rfl) ?_
                  refine get6 C0 hK hW iz1 (al6 6 hiz1 (by decide)) 9 (by decide) wFL_X4_128 rfl rfl dX4_bird_107 ?_
                  refine lv_if_eq (tgt := 117) hx hb dX4_bird_110 (by decide) (fun c9 => ?_) (fun c9 => ?_)
                  · rw [if_pos c9] at hF
                    refine lv_iconst (v := 0) hx hb dX4_bird_117 (by decide) ?_
                    cases hF
                    exact retI C0 hr hlk hW hS dX4_bird_118
                  · rw [if_neg c9] at hF
                    refine lv_iconst (v := 1) hx hb dX4_bird_113 (by decide) ?_
                    refine lv_goto (tgt := 118) hx hb dX4_bird_114 (by decide) ?_
                    cases hF
                    exact retI C0 hr hlk hW hS dX4_bird_118
                · rw [if_neg c10] at hF
                  by_cases c11 : a2 = 7
                  · rw [if_pos c11] at hF
                    refine lv_tableIn (tgt := 119) (off := 98) hx hb dX4_bird_21 (by rw [c11]; decide) (by rw [c11]; decide) (by rw [c11]; decide) (by decide) ?_
                    refine lv_aload_n hx hb dX4_bird_119 rfl (lv_at hl 0 rfl) ?_
                    refine get6 C0 hK hW iz1 (al6 6 hiz1 (by decide)) 8 (by decide) wFL_X4_150 rfl rfl dX4_bird_120 ?_
                    cases hF
                    exact retI C0 hr hlk hW hS dX4_bird_123
                  · rw [if_neg c11] at hF
                    by_cases c12 : a2 = 8
                    · rw [if_pos c12] at hF
                      refine lv_tableIn (tgt := 124) (off := 103) hx hb dX4_bird_21 (by rw [c12]; decide) (by rw [c12]; decide) (by rw [c12]; decide) (by decide) ?_
                      refine lv_aload_n hx hb dX4_bird_124 rfl (lv_at hl 0 rfl) ?_
                      refine get6 C0 hK hW iz1 (al6 6 hiz1 (by decide)) 11 (by decide) wFL_X4_216 rfl rfl dX4_bird_125 ?_
                      refine lv_l2i hx hb dX4_bird_128 rfl ?_
                      cases hF
                      exact retI C0 hr hlk hW hS dX4_bird_129
                    · rw [if_neg c12] at hF
                      by_cases c13 : a2 = 9
                      · rw [if_pos c13] at hF
                        refine lv_tableIn (tgt := 130) (off := 109) hx hb dX4_bird_21 (by rw [c13]; decide) (by rw [c13]; decide) (by rw [c13]; decide) (by decide) ?_
                        refine lv_aload_n hx hb dX4_bird_130 rfl (lv_at hl 0 rfl) ?_
                        refine get6 C0 hK hW iz1 (al6 6 hiz1 (by decide)) 12 (by decide) wFL_X4_219 rfl rfl dX4_bird_131 ?_
                        cases hF
                        exact retI C0 hr hlk hW hS dX4_bird_134
                      · rw [if_neg c13] at hF
                        have t0 := lv_neT c2 (a := 0) (by decide)
                        have t1 := lv_neT c3 (a := 1) (by decide)
                        have t2 := lv_neT c4 (a := 2) (by decide)
                        have t3 := lv_neT c5 (a := 3) (by decide)
                        have t4 := lv_neT c6 (a := 4) (by decide)
                        have t5 := lv_neT c8 (a := 5) (by decide)
                        have t6 := lv_neT c10 (a := 6) (by decide)
                        have t7 := lv_neT c11 (a := 7) (by decide)
                        have t8 := lv_neT c12 (a := 8) (by decide)
                        have t9 := lv_neT c13 (a := 9) (by decide)
                        refine lv_tableOut (tgt := 135) hx hb dX4_bird_21 (by omega) (by decide) ?_
                        cases hF
theorem hdX4_lift : yX4_lift.cls = RX4 ∧ yX4_lift.cls ≠ "java/lang/invoke/MethodHandle" ∧ yX4_lift.cls ≠ "java/lang/invoke/VarHandle" ∧ (parseMethodDescriptor yX4_lift.desc).map (fun d => d.parameters.length) = some 3 := by decide +kernel
def FX4_lift (ns nb : Nat) (σ : Sg) (a1 : Int32) (a2 : Int32) (a3 : Int32) : Option ((Nat ⊕ Int32) × Sg) :=
  (FX4_birdAt ns nb σ a1).bind fun z1 => oc z1.1 (some (.inl 1, z1.2)) (fun iz1 => if iz1 < nb then ((FX0_camAt ns nb z1.2 iz1 a2).bind fun z2 => oc z2.1 (some (.inl 1, z2.2)) (fun iz2 => if iz2 < 3 * nb then (if a3 = (-1) then (if a3 = (-1) then ((FX0_placeNow ns nb z2.2 iz1).bind fun z6 => (FX4_at ns nb z6.2 12 iz2 z6.1).bind fun z7 => some (.inr z7.1, z7.2)) else ((FX4_at ns nb z2.2 12 iz2 a3).bind fun z5 => some (.inr z5.1, z5.2))) else ((FX0_hasPlace ns nb z2.2 iz1 a3).bind fun z8 => if z8.1 = 0 then (some (.inl 2, z8.2)) else (if a3 = (-1) then ((FX0_placeNow ns nb z8.2 iz1).bind fun z12 => (FX4_at ns nb z12.2 12 iz2 z12.1).bind fun z13 => some (.inr z13.1, z13.2)) else ((FX4_at ns nb z8.2 12 iz2 a3).bind fun z11 => some (.inr z11.1, z11.2))))) else none)) else none)
set_option maxHeartbeats 4000000 in
set_option maxRecDepth 100000 in
theorem nX4_lift (l : Launch) (lo : Nat) (g : Gx) (h : Sh) (σ : Sg) (a1 : Int32) (a2 : Int32) (a3 : Int32)  (r : Int32) (σ1 : Sg) (hF : FX4_lift h.1 h.2.1 σ a1 a2 a3 = some (.inr r, σ1)) : MI l yX4_lift (ws_ yX4_lift cX4_lift 6 (some .int)) 2 43 0 0 lo g h [.ref (h.2.2 0 0), .int a1, .int a2, .int a3] σ r σ1 := by
  refine ofB (own := RX4) (by decide +kernel) rfl (fun p e s m below meth c C0 hr hlk hlo hK hZ hW hS ls hl => ?_) (Nat.le_of_ble_eq_true rfl)
  have hx := C0.1
  have hb := C0.2.1
  have hl : lv_has ls 6 [(0, .ref (h.2.2 0 0)), (1, .int a1), (2, .int a2), (3, .int a3)] := hl
  unfold FX4_lift at hF
  refine lv_aload_n hx hb dX4_lift_0 rfl (lv_at hl 0 rfl) ?_
  refine lv_iload_n hx hb dX4_lift_1 rfl (lv_at hl 1 rfl) ?_
  obtain ⟨z1, hz1, hF⟩ := bnd hF
  refine inR (runV C0 hlo hK hZ hW hS (kX4_birdAt l lo g h _ a1  _ _ hz1) wCO_X4_birdAt wML_X4_122 wIM_X4_birdAt wSE_X4_X4_birdAt wIN_X4 hdX4_birdAt ⟨Nat.le_of_ble_eq_true rfl, Nat.le_of_ble_eq_true rfl⟩ (recvK hK hW (al0 h 0 (by decide)) (ct0 0) rfl) rfl hl.1 rfl (Nat.le_of_ble_eq_true rfl) dX4_lift_2 ⟨Nat.le_of_ble_eq_true rfl, Nat.le_of_ble_eq_true rfl⟩) hS (fun H locs hW hS => ?_)
  refine nspl (fun nz1 => ?_) (fun iz1 nz1 => ?_)
  · rw [nz1, oc_n] at hF
    refine lv_astoreN (lv' := [(4, .null), (0, .ref (h.2.2 0 0)), (1, .int a1), (2, .int a2), (3, .int a3)]) hx hb dX4_lift_5 hl (by decide) rfl (fun ls hl => ?_)
    refine lv_aloadN hx hb dX4_lift_7 (lv_at hl 0 rfl) ?_
    refine lv_ifnonnullN hx hb dX4_lift_9 ?_
    refine lv_null hx hb dX4_lift_12 ?_
    refine lv_goto (tgt := 22) hx hb dX4_lift_13 (by decide) ?_
    refine lv_astoreN (lv' := [(5, .null), (4, .null), (0, .ref (h.2.2 0 0)), (1, .int a1), (2, .int a2), (3, .int a3)]) hx hb dX4_lift_22 hl (by decide) rfl (fun ls hl => ?_)
    refine lv_aloadN hx hb dX4_lift_24 (lv_at hl 1 rfl) ?_
    refine lv_ifnullN (tgt := 34) hx hb dX4_lift_26 (by decide) ?_
    cases hF
  · rw [nz1, oc_s] at hF
    obtain ⟨hiz1, hF⟩ := grp hF
    refine lv_astore (lv' := [(4, .ref (h.2.2 6 iz1)), (0, .ref (h.2.2 0 0)), (1, .int a1), (2, .int a2), (3, .int a3)]) hx hb dX4_lift_5 hl (by decide) rfl (fun ls hl => ?_)
    refine lv_aload hx hb dX4_lift_7 (lv_at hl 0 rfl) ?_
    refine lv_ifnonnull (tgt := 16) hx hb dX4_lift_9 (by decide) ?_
    refine lv_aload hx hb dX4_lift_16 (lv_at hl 0 rfl) ?_
    refine lv_iload_n hx hb dX4_lift_18 rfl (lv_at hl 3 rfl) ?_
    obtain ⟨z2, hz2, hF⟩ := bnd hF
    refine inR (runV C0 hlo hK hZ hW hS (kX0_camAt l lo g h _ iz1 a2 hiz1 _ _ hz2) wCO_X0_camAt wML_X4_173 wIM_X0_camAt wSE_X0_X0_camAt wIN_X0 hdX0_camAt ⟨Nat.le_of_ble_eq_true rfl, Nat.le_of_ble_eq_true rfl⟩ (recvK hK hW (al6 6 hiz1 (by decide)) (ct6 iz1) rfl) rfl hl.1 rfl (Nat.le_of_ble_eq_true rfl) dX4_lift_19 ⟨Nat.le_of_ble_eq_true rfl, Nat.le_of_ble_eq_true rfl⟩) hS (fun H locs hW hS => ?_)
    refine nspl (fun nz2 => ?_) (fun iz2 nz2 => ?_)
    · rw [nz2, oc_n] at hF
      refine lv_astoreN (lv' := [(5, .null), (4, .ref (h.2.2 6 iz1)), (0, .ref (h.2.2 0 0)), (1, .int a1), (2, .int a2), (3, .int a3)]) hx hb dX4_lift_22 hl (by decide) rfl (fun ls hl => ?_)
      refine lv_aload hx hb dX4_lift_24 (lv_at hl 1 rfl) ?_
      refine lv_ifnull hx hb dX4_lift_26 ?_
      refine lv_aloadN hx hb dX4_lift_29 (lv_at hl 0 rfl) ?_
      refine lv_ifnonnullN hx hb dX4_lift_31 ?_
      cases hF
    · rw [nz2, oc_s] at hF
      obtain ⟨hiz2, hF⟩ := grp hF
      refine lv_astore (lv' := [(5, .ref (h.2.2 10 iz2)), (4, .ref (h.2.2 6 iz1)), (0, .ref (h.2.2 0 0)), (1, .int a1), (2, .int a2), (3, .int a3)]) hx hb dX4_lift_22 hl (by decide) rfl (fun ls hl => ?_)
      refine lv_aload hx hb dX4_lift_24 (lv_at hl 1 rfl) ?_
      refine lv_ifnull hx hb dX4_lift_26 ?_
      refine lv_aload hx hb dX4_lift_29 (lv_at hl 0 rfl) ?_
      refine lv_ifnonnull (tgt := 44) hx hb dX4_lift_31 (by decide) ?_
      refine lv_iload_n hx hb dX4_lift_44 rfl (lv_at hl 5 rfl) ?_
      refine lv_iconst (v := (-1)) hx hb dX4_lift_45 (by decide) ?_
      refine lv_icmp_eq (tgt := 68) hx hb dX4_lift_46 (by decide) (fun c3 => ?_) (fun c3 => ?_)
      · rw [if_pos c3] at hF
        refine lv_aload hx hb dX4_lift_68 (lv_at hl 0 rfl) ?_
        refine get10 C0 hK hW iz2 (al10 10 hiz2 (by decide)) 1 (by decide) wFL_X4_226 rfl rfl dX4_lift_70 ?_
        refine lv_iload_n hx hb dX4_lift_73 rfl (lv_at hl 5 rfl) ?_
        refine lv_iconst (v := (-1)) hx hb dX4_lift_74 (by decide) ?_
        refine lv_icmp_ne (tgt := 86) hx hb dX4_lift_75 (by decide) (fun c4 => ?_) (fun c4 => ?_)
        · rw [if_neg c4] at hF
          refine lv_iload_n hx hb dX4_lift_86 rfl (lv_at hl 5 rfl) ?_
          obtain ⟨z5, hz5, hF⟩ := bnd hF
          refine inI (runS C0 hlo hK hZ hW hS (kX4_at l lo g h _ 12 iz2 a3 (al10 12 hiz2 (by decide)) (by decide) _ _ hz5) wCO_X4_at wML_X4_165 wST_X4_at wIN_X4 hdsX4_at ⟨Nat.le_of_ble_eq_true rfl, Nat.le_of_ble_eq_true rfl⟩ rfl hl.1 rfl (Nat.le_of_ble_eq_true rfl) dX4_lift_87 ⟨Nat.le_of_ble_eq_true rfl, Nat.le_of_ble_eq_true rfl⟩) hS (fun H locs hW hS => ?_)
          cases hF
          exact retI C0 hr hlk hW hS dX4_lift_90
        · rw [if_pos c4] at hF
          refine lv_aload hx hb dX4_lift_78 (lv_at hl 1 rfl) ?_
          obtain ⟨z6, hz6, hF⟩ := bnd hF
          refine inI (runV C0 hlo hK hZ hW hS (kX0_placeNow l lo g h _ iz1 hiz1 _ _ hz6) wCO_X0_placeNow wML_X4_212 wIM_X0_placeNow wSE_X0_X0_placeNow wIN_X0 hdX0_placeNow ⟨Nat.le_of_ble_eq_true rfl, Nat.le_of_ble_eq_true rfl⟩ (recvK hK hW (al6 6 hiz1 (by decide)) (ct6 iz1) rfl) rfl hl.1 rfl (Nat.le_of_ble_eq_true rfl) dX4_lift_80 ⟨Nat.le_of_ble_eq_true rfl, Nat.le_of_ble_eq_true rfl⟩) hS (fun H locs hW hS => ?_)
          refine lv_goto (tgt := 87) hx hb dX4_lift_83 (by decide) ?_
          obtain ⟨z7, hz7, hF⟩ := bnd hF
          refine inI (runS C0 hlo hK hZ hW hS (kX4_at l lo g h _ 12 iz2 z6.1 (al10 12 hiz2 (by decide)) (by decide) _ _ hz7) wCO_X4_at wML_X4_165 wST_X4_at wIN_X4 hdsX4_at ⟨Nat.le_of_ble_eq_true rfl, Nat.le_of_ble_eq_true rfl⟩ rfl hl.1 rfl (Nat.le_of_ble_eq_true rfl) dX4_lift_87 ⟨Nat.le_of_ble_eq_true rfl, Nat.le_of_ble_eq_true rfl⟩) hS (fun H locs hW hS => ?_)
          cases hF
          exact retI C0 hr hlk hW hS dX4_lift_90
      · rw [if_neg c3] at hF
        refine lv_aload hx hb dX4_lift_49 (lv_at hl 1 rfl) ?_
        refine lv_iload_n hx hb dX4_lift_51 rfl (lv_at hl 5 rfl) ?_
        obtain ⟨z8, hz8, hF⟩ := bnd hF
        refine inI (runV C0 hlo hK hZ hW hS (kX0_hasPlace l lo g h _ iz1 a3 hiz1 _ _ hz8) wCO_X0_hasPlace wML_X4_138 wIM_X0_hasPlace wSE_X0_X0_hasPlace wIN_X0 hdX0_hasPlace ⟨Nat.le_of_ble_eq_true rfl, Nat.le_of_ble_eq_true rfl⟩ (recvK hK hW (al6 6 hiz1 (by decide)) (ct6 iz1) rfl) rfl hl.1 rfl (Nat.le_of_ble_eq_true rfl) dX4_lift_52 ⟨Nat.le_of_ble_eq_true rfl, Nat.le_of_ble_eq_true rfl⟩) hS (fun H locs hW hS => ?_)
        refine lv_if_ne (tgt := 68) hx hb dX4_lift_55 (by decide) (fun c9 => ?_) (fun c9 => ?_)
        · rw [if_neg c9] at hF
          refine lv_aload hx hb dX4_lift_68 (lv_at hl 0 rfl) ?_
          refine get10 C0 hK hW iz2 (al10 10 hiz2 (by decide)) 1 (by decide) wFL_X4_226 rfl rfl dX4_lift_70 ?_
          refine lv_iload_n hx hb dX4_lift_73 rfl (lv_at hl 5 rfl) ?_
          refine lv_iconst (v := (-1)) hx hb dX4_lift_74 (by decide) ?_
          refine lv_icmp_ne (tgt := 86) hx hb dX4_lift_75 (by decide) (fun c10 => ?_) (fun c10 => ?_)
          · rw [if_neg c10] at hF
            refine lv_iload_n hx hb dX4_lift_86 rfl (lv_at hl 5 rfl) ?_
            obtain ⟨z11, hz11, hF⟩ := bnd hF
            refine inI (runS C0 hlo hK hZ hW hS (kX4_at l lo g h _ 12 iz2 a3 (al10 12 hiz2 (by decide)) (by decide) _ _ hz11) wCO_X4_at wML_X4_165 wST_X4_at wIN_X4 hdsX4_at ⟨Nat.le_of_ble_eq_true rfl, Nat.le_of_ble_eq_true rfl⟩ rfl hl.1 rfl (Nat.le_of_ble_eq_true rfl) dX4_lift_87 ⟨Nat.le_of_ble_eq_true rfl, Nat.le_of_ble_eq_true rfl⟩) hS (fun H locs hW hS => ?_)
            cases hF
            exact retI C0 hr hlk hW hS dX4_lift_90
          · rw [if_pos c10] at hF
            refine lv_aload hx hb dX4_lift_78 (lv_at hl 1 rfl) ?_
            obtain ⟨z12, hz12, hF⟩ := bnd hF
            refine inI (runV C0 hlo hK hZ hW hS (kX0_placeNow l lo g h _ iz1 hiz1 _ _ hz12) wCO_X0_placeNow wML_X4_212 wIM_X0_placeNow wSE_X0_X0_placeNow wIN_X0 hdX0_placeNow ⟨Nat.le_of_ble_eq_true rfl, Nat.le_of_ble_eq_true rfl⟩ (recvK hK hW (al6 6 hiz1 (by decide)) (ct6 iz1) rfl) rfl hl.1 rfl (Nat.le_of_ble_eq_true rfl) dX4_lift_80 ⟨Nat.le_of_ble_eq_true rfl, Nat.le_of_ble_eq_true rfl⟩) hS (fun H locs hW hS => ?_)
            refine lv_goto (tgt := 87) hx hb dX4_lift_83 (by decide) ?_
            obtain ⟨z13, hz13, hF⟩ := bnd hF
            refine inI (runS C0 hlo hK hZ hW hS (kX4_at l lo g h _ 12 iz2 z12.1 (al10 12 hiz2 (by decide)) (by decide) _ _ hz13) wCO_X4_at wML_X4_165 wST_X4_at wIN_X4 hdsX4_at ⟨Nat.le_of_ble_eq_true rfl, Nat.le_of_ble_eq_true rfl⟩ rfl hl.1 rfl (Nat.le_of_ble_eq_true rfl) dX4_lift_87 ⟨Nat.le_of_ble_eq_true rfl, Nat.le_of_ble_eq_true rfl⟩) hS (fun H locs hW hS => ?_)
            cases hF
            exact retI C0 hr hlk hW hS dX4_lift_90
        · rw [if_pos c9] at hF
          cases hF
theorem hdX4_run : yX4_run.cls = RX4 ∧ yX4_run.cls ≠ "java/lang/invoke/MethodHandle" ∧ yX4_run.cls ≠ "java/lang/invoke/VarHandle" ∧ (parseMethodDescriptor yX4_run.desc).map (fun d => d.parameters.length) = some 1 := by decide +kernel
def LX4_run_25 (ns nb : Nat) (v1 : Int32) : Nat → Int32 → Int32 → Sg → Option (Int32 × Sg)
  | 0, _, _, _ => none
  | n + 1, v2, v3, σ => if v1 ≤ v3 then (some (v2, σ)) else ((FX4_goOneTick ns nb σ ).bind fun z4 => LX4_run_25 ns nb v1 n (v2 + z4.1) (v3 + 1) z4.2)
def FX4_run (ns nb : Nat) (σ : Sg) (a1 : Int32) : Option ((Nat ⊕ Int32) × Sg) :=
  (FX4_isIn ns nb σ a1 1 500).bind fun z1 => if z1.1 = 0 then (some (.inl 2, z1.2)) else ((LX4_run_25 ns nb a1 4100 0 0 z1.2).bind fun z5 => some (.inr z5.1, z5.2))
set_option maxHeartbeats 4000000 in
set_option maxRecDepth 100000 in
theorem lX4_run_25 {p : Program} {l : Launch} {e : Env} {s : State} {m : MethodId} {args : Array Value} {below : List Frame} {meth : Method} {c : Code} {Q : State → Prop} {lo : Nat} {g : Gx} {h : Sh} (C0 : CallFix p m c cX4_run 4 s args wB RX4) (hlo : lo ≤ s.heap.size) (hK : KW g s) (hZ : ZW lo s s.heap) (v1 : Int32)  : ∀ (n : Nat) (v2 : Int32) (v3 : Int32) (σ : Sg) (z : (Int32 × Sg)) (hF : LX4_run_25 h.1 h.2.1 v1 n v2 v3 σ = some z) (H : Heap) (locs : List Loc) (ls : Array Slot) (hW : FW g h (Ax lo) σ H) (hS : va_S (Ax lo) s.heap H locs) (hl : lv_has ls 4 [(0, .ref (h.2.2 0 0)), (1, .int v1), (2, .int v2), (3, .int v3)]) (kk : ∀ (H : Heap) (locs : List Loc) (ls : Array Slot), FW g h (Ax lo) z.2 H → va_S (Ax lo) s.heap H locs → lv_has ls 4 [(2, .int z.1)] → W p l e { frames := 6, cells := 0, slots := 0, locals := 150 } s m args below meth c H locs 0 0 Q (F0 m 43 ls [])), W p l e { frames := 6, cells := 0, slots := 0, locals := 150 } s m args below meth c H locs 0 0 Q (F0 m 25 ls []) := by
  have hx := C0.1
  have hb := C0.2.1
  intro n
  induction n with
  | zero =>
    intro v2 v3 σ z hF
    rw [LX4_run_25] at hF
    cases hF
  | succ n ih =>
    intro v2 v3 σ z hF H locs ls hW hS hl kk
    rw [LX4_run_25] at hF
    refine lv_iload_n hx hb dX4_run_25 rfl (lv_at hl 3 rfl) ?_
    refine lv_iload_n hx hb dX4_run_26 rfl (lv_at hl 1 rfl) ?_
    refine lv_icmp_ge (tgt := 43) hx hb dX4_run_27 (by decide) (fun c3 => ?_) (fun c3 => ?_)
    · rw [if_pos c3] at hF
      cases hF
      exact kk _ _ _ hW hS (lv_sub hl [2] rfl)
    · rw [if_neg c3] at hF
      refine lv_iload_n hx hb dX4_run_30 rfl (lv_at hl 2 rfl) ?_
      refine lv_aload_n hx hb dX4_run_31 rfl (lv_at hl 0 rfl) ?_
      obtain ⟨z4, hz4, hF⟩ := bnd hF
      refine inI (runV C0 hlo hK hZ hW hS (kX4_goOneTick l lo g h _   _ _ hz4) wCO_X4_goOneTick wML_X4_231 wIM_X4_goOneTick wSE_X4_X4_goOneTick wIN_X4 hdX4_goOneTick ⟨Nat.le_of_ble_eq_true rfl, Nat.le_of_ble_eq_true rfl⟩ (recvK hK hW (al0 h 0 (by decide)) (ct0 0) rfl) rfl hl.1 rfl (Nat.le_of_ble_eq_true rfl) dX4_run_32 ⟨Nat.le_of_ble_eq_true rfl, Nat.le_of_ble_eq_true rfl⟩) hS (fun H locs hW hS => ?_)
      refine lv_iadd hx hb dX4_run_35 ?_
      refine lv_istore_n (lv' := [(2, .int (v2 + z4.1)), (0, .ref (h.2.2 0 0)), (1, .int v1), (3, .int v3)]) hx hb dX4_run_36 rfl hl (by decide) rfl (fun ls hl => ?_)
      refine lv_iinc (v := v3 + 1) (lv' := [(3, .int (v3 + 1)), (2, .int (v2 + z4.1)), (0, .ref (h.2.2 0 0)), (1, .int v1)]) hx hb dX4_run_37 hl (k := 3) rfl rfl (by decide) rfl (fun ls hl => ?_)
      refine lv_goto (tgt := 25) hx hb dX4_run_40 (by decide) ?_
      exact ih (v2 + z4.1) (v3 + 1) z4.2 z hF _ _ _ hW hS (lv_sub hl [2, 3, 1, 0] rfl) kk
set_option maxHeartbeats 4000000 in
set_option maxRecDepth 100000 in
theorem nX4_run (l : Launch) (lo : Nat) (g : Gx) (h : Sh) (σ : Sg) (a1 : Int32)  (r : Int32) (σ1 : Sg) (hF : FX4_run h.1 h.2.1 σ a1 = some (.inr r, σ1)) : MI l yX4_run (ws_ yX4_run cX4_run 4 (some .int)) 6 150 0 0 lo g h [.ref (h.2.2 0 0), .int a1] σ r σ1 := by
  refine ofB (own := RX4) (by decide +kernel) rfl (fun p e s m below meth c C0 hr hlk hlo hK hZ hW hS ls hl => ?_) (Nat.le_of_ble_eq_true rfl)
  have hx := C0.1
  have hb := C0.2.1
  have hl : lv_has ls 4 [(0, .ref (h.2.2 0 0)), (1, .int a1)] := hl
  unfold FX4_run at hF
  refine lv_iload_n hx hb dX4_run_0 rfl (lv_at hl 1 rfl) ?_
  refine lv_iconst (v := 1) hx hb dX4_run_1 (by decide) ?_
  refine lv_sipush (v := 500) hx hb dX4_run_2 (by decide) ?_
  obtain ⟨z1, hz1, hF⟩ := bnd hF
  refine inI (runS C0 hlo hK hZ hW hS (kX4_isIn l lo g h _ a1 1 500  _ _ hz1) wCO_X4_isIn wML_X4_28 wST_X4_isIn wIN_X4 hdsX4_isIn ⟨Nat.le_of_ble_eq_true rfl, Nat.le_of_ble_eq_true rfl⟩ rfl hl.1 rfl (Nat.le_of_ble_eq_true rfl) dX4_run_5 ⟨Nat.le_of_ble_eq_true rfl, Nat.le_of_ble_eq_true rfl⟩) hS (fun H locs hW hS => ?_)
  refine lv_if_ne (tgt := 21) hx hb dX4_run_8 (by decide) (fun c2 => ?_) (fun c2 => ?_)
  · rw [if_neg c2] at hF
    refine lv_iconst (v := 0) hx hb dX4_run_21 (by decide) ?_
    refine lv_istore_n (lv' := [(2, .int 0), (0, .ref (h.2.2 0 0)), (1, .int a1)]) hx hb dX4_run_22 rfl hl (by decide) rfl (fun ls hl => ?_)
    refine lv_iconst (v := 0) hx hb dX4_run_23 (by decide) ?_
    refine lv_istore_n (lv' := [(3, .int 0), (2, .int 0), (0, .ref (h.2.2 0 0)), (1, .int a1)]) hx hb dX4_run_24 rfl hl (by decide) rfl (fun ls hl => ?_)
    obtain ⟨z5, hz5, hF⟩ := bnd hF
    refine lX4_run_25 C0 hlo hK hZ a1  _ 0 0 _ z5 hz5 _ _ _ hW hS (lv_sub hl [2, 3, 1, 0] rfl) (fun H locs ls hW hS hl => ?_)
    refine lv_iload_n hx hb dX4_run_43 rfl (lv_at hl 0 rfl) ?_
    cases hF
    exact retI C0 hr hlk hW hS dX4_run_44
  · rw [if_pos c2] at hF
    cases hF
theorem hdX4_count : yX4_count.cls = RX4 ∧ yX4_count.cls ≠ "java/lang/invoke/MethodHandle" ∧ yX4_count.cls ≠ "java/lang/invoke/VarHandle" ∧ (parseMethodDescriptor yX4_count.desc).map (fun d => d.parameters.length) = some 1 := by decide +kernel
def FX4_count (ns nb : Nat) (σ : Sg) (a1 : Int32) : Option ((Nat ⊕ Int32) × Sg) :=
  if a1 = 0 then (some (.inr (σ.1 0 0 6), σ)) else (if a1 = 1 then (some (.inr (σ.1 0 0 3), σ)) else (if a1 = 2 then (some (.inr (σ.1 0 0 4), σ)) else (if a1 = 3 then ((FJ6_bitCount_0f7a4 ns nb σ (σ.1 0 0 5)).bind fun z4 => some (.inr z4.1, z4.2)) else (if a1 = 4 then (some (.inr (σ.1 3 0 2), σ)) else (if a1 = 5 then ((FX4_heldByAll ns nb σ ).bind fun z7 => some (.inr z7.1, z7.2)) else (some (.inl 1, σ)))))))
set_option maxHeartbeats 4000000 in
set_option maxRecDepth 100000 in
theorem nX4_count (l : Launch) (lo : Nat) (g : Gx) (h : Sh) (σ : Sg) (a1 : Int32)  (r : Int32) (σ1 : Sg) (hF : FX4_count h.1 h.2.1 σ a1 = some (.inr r, σ1)) : MI l yX4_count (ws_ yX4_count cX4_count 2 (some .int)) 1 25 0 0 lo g h [.ref (h.2.2 0 0), .int a1] σ r σ1 := by
  refine ofB (own := RX4) (by decide +kernel) rfl (fun p e s m below meth c C0 hr hlk hlo hK hZ hW hS ls hl => ?_) (Nat.le_of_ble_eq_true rfl)
  have hx := C0.1
  have hb := C0.2.1
  have hl : lv_has ls 2 [(0, .ref (h.2.2 0 0)), (1, .int a1)] := hl
  unfold FX4_count at hF
  refine lv_iload_n hx hb dX4_count_0 rfl (lv_at hl 1 rfl) ?_
  by_cases c1 : a1 = 0
  · rw [if_pos c1] at hF
    refine lv_tableIn (tgt := 40) (off := 39) hx hb dX4_count_1 (by rw [c1]; decide) (by rw [c1]; decide) (by rw [c1]; decide) (by decide) ?_
    refine lv_aload_n hx hb dX4_count_40 rfl (lv_at hl 0 rfl) ?_
    refine get0 C0 hK hW 0 (al0 h 0 (by decide)) 6 (by decide) wFL_X4_234 rfl rfl dX4_count_41 ?_
    cases hF
    exact retI C0 hr hlk hW hS dX4_count_44
  · rw [if_neg c1] at hF
    by_cases c2 : a1 = 1
    · rw [if_pos c2] at hF
      refine lv_tableIn (tgt := 45) (off := 44) hx hb dX4_count_1 (by rw [c2]; decide) (by rw [c2]; decide) (by rw [c2]; decide) (by decide) ?_
      refine lv_aload_n hx hb dX4_count_45 rfl (lv_at hl 0 rfl) ?_
      refine get0 C0 hK hW 0 (al0 h 0 (by decide)) 3 (by decide) wFL_X4_39 rfl rfl dX4_count_46 ?_
      cases hF
      exact retI C0 hr hlk hW hS dX4_count_49
    · rw [if_neg c2] at hF
      by_cases c3 : a1 = 2
      · rw [if_pos c3] at hF
        refine lv_tableIn (tgt := 50) (off := 49) hx hb dX4_count_1 (by rw [c3]; decide) (by rw [c3]; decide) (by rw [c3]; decide) (by decide) ?_
        refine lv_aload_n hx hb dX4_count_50 rfl (lv_at hl 0 rfl) ?_
        refine get0 C0 hK hW 0 (al0 h 0 (by decide)) 4 (by decide) wFL_X4_114 rfl rfl dX4_count_51 ?_
        cases hF
        exact retI C0 hr hlk hW hS dX4_count_54
      · rw [if_neg c3] at hF
        by_cases c5 : a1 = 3
        · rw [if_pos c5] at hF
          refine lv_tableIn (tgt := 55) (off := 54) hx hb dX4_count_1 (by rw [c5]; decide) (by rw [c5]; decide) (by rw [c5]; decide) (by decide) ?_
          refine lv_aload_n hx hb dX4_count_55 rfl (lv_at hl 0 rfl) ?_
          refine get0 C0 hK hW 0 (al0 h 0 (by decide)) 5 (by decide) wFL_X4_81 rfl rfl dX4_count_56 ?_
          obtain ⟨z4, hz4, hF⟩ := bnd hF
          refine inI (runS C0 hlo hK hZ hW hS (kJ6_bitCount_0f7a4 l lo g h _ (σ.1 0 0 5)  _ _ hz4) wCO_J6_bitCount_0f7a4 wML_X4_84 wST_J6_bitCount_0f7a4 wIN_J6 hdsJ6_bitCount_0f7a4 ⟨Nat.le_of_ble_eq_true rfl, Nat.le_of_ble_eq_true rfl⟩ rfl hl.1 rfl (Nat.le_of_ble_eq_true rfl) dX4_count_59 ⟨Nat.le_of_ble_eq_true rfl, Nat.le_of_ble_eq_true rfl⟩) hS (fun H locs hW hS => ?_)
          cases hF
          exact retI C0 hr hlk hW hS dX4_count_62
        · rw [if_neg c5] at hF
          by_cases c6 : a1 = 4
          · rw [if_pos c6] at hF
            refine lv_tableIn (tgt := 63) (off := 62) hx hb dX4_count_1 (by rw [c6]; decide) (by rw [c6]; decide) (by rw [c6]; decide) (by decide) ?_
            refine lv_aload_n hx hb dX4_count_63 rfl (lv_at hl 0 rfl) ?_
            refine get0 C0 hK hW 0 (al0 h 0 (by decide)) 2 (by decide) wFL_X4_24 rfl rfl dX4_count_64 ?_
            refine get3 C0 hK hW 0 (al0 h 3 (by decide)) 2 (by decide) wFL_X4_237 rfl rfl dX4_count_67 ?_
            cases hF
            exact retI C0 hr hlk hW hS dX4_count_70
          · rw [if_neg c6] at hF
            by_cases c8 : a1 = 5
            · rw [if_pos c8] at hF
              refine lv_tableIn (tgt := 71) (off := 70) hx hb dX4_count_1 (by rw [c8]; decide) (by rw [c8]; decide) (by rw [c8]; decide) (by decide) ?_
              refine lv_aload_n hx hb dX4_count_71 rfl (lv_at hl 0 rfl) ?_
              obtain ⟨z7, hz7, hF⟩ := bnd hF
              refine inI (runV C0 hlo hK hZ hW hS (kX4_heldByAll l lo g h _   _ _ hz7) wCO_X4_heldByAll wML_X4_240 wIM_X4_heldByAll wSE_X4_X4_heldByAll wIN_X4 hdX4_heldByAll ⟨Nat.le_of_ble_eq_true rfl, Nat.le_of_ble_eq_true rfl⟩ (recvK hK hW (al0 h 0 (by decide)) (ct0 0) rfl) rfl hl.1 rfl (Nat.le_of_ble_eq_true rfl) dX4_count_72 ⟨Nat.le_of_ble_eq_true rfl, Nat.le_of_ble_eq_true rfl⟩) hS (fun H locs hW hS => ?_)
              cases hF
              exact retI C0 hr hlk hW hS dX4_count_75
            · rw [if_neg c8] at hF
              have t0 := lv_neT c1 (a := 0) (by decide)
              have t1 := lv_neT c2 (a := 1) (by decide)
              have t2 := lv_neT c3 (a := 2) (by decide)
              have t3 := lv_neT c5 (a := 3) (by decide)
              have t4 := lv_neT c6 (a := 4) (by decide)
              have t5 := lv_neT c8 (a := 5) (by decide)
              refine lv_tableOut (tgt := 76) hx hb dX4_count_1 (by omega) (by decide) ?_
              cases hF
theorem hdX4_sung : yX4_sung.cls = RX4 ∧ yX4_sung.cls ≠ "java/lang/invoke/MethodHandle" ∧ yX4_sung.cls ≠ "java/lang/invoke/VarHandle" ∧ (parseMethodDescriptor yX4_sung.desc).map (fun d => d.parameters.length) = some 2 := by decide +kernel
def FX4_sung (ns nb : Nat) (σ : Sg) (a1 : Int32) (a2 : Int32) : Option ((Nat ⊕ Int32) × Sg) :=
  (FX4_isIn ns nb σ a1 0 ((σ.1 3 0 1) - 1)).bind fun z1 => if z1.1 = 0 then (some (.inl 1, z1.2)) else ((FX4_isIn ns nb z1.2 a2 0 3).bind fun z3 => if z3.1 = 0 then (some (.inl 1, z3.2)) else ((FX2_told ns nb z3.2 a1 a2).bind fun z5 => some (.inr z5.1, z5.2)))
set_option maxHeartbeats 4000000 in
set_option maxRecDepth 100000 in
theorem nX4_sung (l : Launch) (lo : Nat) (g : Gx) (h : Sh) (σ : Sg) (a1 : Int32) (a2 : Int32)  (r : Int32) (σ1 : Sg) (hF : FX4_sung h.1 h.2.1 σ a1 a2 = some (.inr r, σ1)) : MI l yX4_sung (ws_ yX4_sung cX4_sung 3 (some .int)) 2 43 0 0 lo g h [.ref (h.2.2 0 0), .int a1, .int a2] σ r σ1 := by
  refine ofB (own := RX4) (by decide +kernel) rfl (fun p e s m below meth c C0 hr hlk hlo hK hZ hW hS ls hl => ?_) (Nat.le_of_ble_eq_true rfl)
  have hx := C0.1
  have hb := C0.2.1
  have hl : lv_has ls 3 [(0, .ref (h.2.2 0 0)), (1, .int a1), (2, .int a2)] := hl
  unfold FX4_sung at hF
  refine lv_iload_n hx hb dX4_sung_0 rfl (lv_at hl 1 rfl) ?_
  refine lv_iconst (v := 0) hx hb dX4_sung_1 (by decide) ?_
  refine lv_aload_n hx hb dX4_sung_2 rfl (lv_at hl 0 rfl) ?_
  refine get0 C0 hK hW 0 (al0 h 0 (by decide)) 2 (by decide) wFL_X4_24 rfl rfl dX4_sung_3 ?_
  refine get3 C0 hK hW 0 (al0 h 3 (by decide)) 1 (by decide) wFL_X4_245 rfl rfl dX4_sung_6 ?_
  refine lv_iconst (v := 1) hx hb dX4_sung_9 (by decide) ?_
  refine lv_isub hx hb dX4_sung_10 ?_
  obtain ⟨z1, hz1, hF⟩ := bnd hF
  refine inI (runS C0 hlo hK hZ hW hS (kX4_isIn l lo g h _ a1 0 ((σ.1 3 0 1) - 1)  _ _ hz1) wCO_X4_isIn wML_X4_28 wST_X4_isIn wIN_X4 hdsX4_isIn ⟨Nat.le_of_ble_eq_true rfl, Nat.le_of_ble_eq_true rfl⟩ rfl hl.1 rfl (Nat.le_of_ble_eq_true rfl) dX4_sung_11 ⟨Nat.le_of_ble_eq_true rfl, Nat.le_of_ble_eq_true rfl⟩) hS (fun H locs hW hS => ?_)
  refine lv_if_ne (tgt := 27) hx hb dX4_sung_14 (by decide) (fun c2 => ?_) (fun c2 => ?_)
  · rw [if_neg c2] at hF
    refine lv_iload_n hx hb dX4_sung_27 rfl (lv_at hl 2 rfl) ?_
    refine lv_iconst (v := 0) hx hb dX4_sung_28 (by decide) ?_
    refine lv_iconst (v := 3) hx hb dX4_sung_29 (by decide) ?_
    obtain ⟨z3, hz3, hF⟩ := bnd hF
    refine inI (runS C0 hlo hK hZ hW hS (kX4_isIn l lo g h _ a2 0 3  _ _ hz3) wCO_X4_isIn wML_X4_28 wST_X4_isIn wIN_X4 hdsX4_isIn ⟨Nat.le_of_ble_eq_true rfl, Nat.le_of_ble_eq_true rfl⟩ rfl hl.1 rfl (Nat.le_of_ble_eq_true rfl) dX4_sung_30 ⟨Nat.le_of_ble_eq_true rfl, Nat.le_of_ble_eq_true rfl⟩) hS (fun H locs hW hS => ?_)
    refine lv_if_ne (tgt := 46) hx hb dX4_sung_33 (by decide) (fun c4 => ?_) (fun c4 => ?_)
    · rw [if_neg c4] at hF
      refine lv_aload_n hx hb dX4_sung_46 rfl (lv_at hl 0 rfl) ?_
      refine get0 C0 hK hW 0 (al0 h 0 (by decide)) 2 (by decide) wFL_X4_24 rfl rfl dX4_sung_47 ?_
      refine lv_iload_n hx hb dX4_sung_50 rfl (lv_at hl 1 rfl) ?_
      refine lv_iload_n hx hb dX4_sung_51 rfl (lv_at hl 2 rfl) ?_
      obtain ⟨z5, hz5, hF⟩ := bnd hF
      refine inI (runV C0 hlo hK hZ hW hS (kX2_told l lo g h _ a1 a2  _ _ hz5) wCO_X2_told wML_X4_252 wIM_X2_told wSE_X2_X2_told wIN_X2 hdX2_told ⟨Nat.le_of_ble_eq_true rfl, Nat.le_of_ble_eq_true rfl⟩ (recvK hK hW (al0 h 3 (by decide)) (ct3 0) rfl) rfl hl.1 rfl (Nat.le_of_ble_eq_true rfl) dX4_sung_52 ⟨Nat.le_of_ble_eq_true rfl, Nat.le_of_ble_eq_true rfl⟩) hS (fun H locs hW hS => ?_)
      cases hF
      exact retI C0 hr hlk hW hS dX4_sung_55
    · rw [if_pos c4] at hF
      cases hF
  · rw [if_pos c2] at hF
    cases hF
theorem hdX4_chord : yX4_chord.cls = RX4 ∧ yX4_chord.cls ≠ "java/lang/invoke/MethodHandle" ∧ yX4_chord.cls ≠ "java/lang/invoke/VarHandle" ∧ (parseMethodDescriptor yX4_chord.desc).map (fun d => d.parameters.length) = some 1 := by decide +kernel
def LX4_chord_22 (ns nb : Nat) (v1 : Int32) : Nat → Int64 → Int64 → Int32 → Sg → Option (Int64 × Int64 × Sg)
  | 0, _, _, _, _ => none
  | n + 1, v2, v4, v6, σ => if (σ.1 3 0 1) ≤ v6 then (some (v2, v4, σ)) else ((FX2_told ns nb σ v6 0).bind fun z3 => if z3.1 = v1 then ((FX2_told ns nb z3.2 v6 3).bind fun z5 => if 64 ≤ z5.1 then (LX4_chord_22 ns nb v1 n v2 (v4 ||| ((1 : Int64) <<< ((z5.1 - 64).toInt64 &&& 63))) (v6 + 1) z5.2) else (LX4_chord_22 ns nb v1 n (v2 ||| ((1 : Int64) <<< (z5.1.toInt64 &&& 63))) v4 (v6 + 1) z5.2)) else (LX4_chord_22 ns nb v1 n v2 v4 (v6 + 1) z3.2))
def FX4_chord (ns nb : Nat) (σ : Sg) (a1 : Int32) : Option ((Nat ⊕ Int32) × Sg) :=
  if 0 ≤ a1 then ((LX4_chord_22 ns nb a1 4100 0 0 0 σ).bind fun z7 => (FJ13_bitCount_95d88 ns nb z7.2.2 z7.1).bind fun z8 => (FJ13_bitCount_95d88 ns nb z8.2 z7.2.1).bind fun z9 => some (.inr (z8.1 + z9.1), z9.2)) else (some (.inl 2, σ))
set_option maxHeartbeats 4000000 in
set_option maxRecDepth 100000 in
theorem lX4_chord_22 {p : Program} {l : Launch} {e : Env} {s : State} {m : MethodId} {args : Array Value} {below : List Frame} {meth : Method} {c : Code} {Q : State → Prop} {lo : Nat} {g : Gx} {h : Sh} (C0 : CallFix p m c cX4_chord 8 s args wB RX4) (hlo : lo ≤ s.heap.size) (hK : KW g s) (hZ : ZW lo s s.heap) (v1 : Int32)  : ∀ (n : Nat) (v2 : Int64) (v4 : Int64) (v6 : Int32) (σ : Sg) (z : (Int64 × Int64 × Sg)) (hF : LX4_chord_22 h.1 h.2.1 v1 n v2 v4 v6 σ = some z) (H : Heap) (locs : List Loc) (ls : Array Slot) (hW : FW g h (Ax lo) σ H) (hS : va_S (Ax lo) s.heap H locs) (hl : lv_has ls 8 [(0, .ref (h.2.2 0 0)), (1, .int v1), (2, .long v2), (4, .long v4), (6, .int v6)]) (kk : ∀ (H : Heap) (locs : List Loc) (ls : Array Slot), FW g h (Ax lo) z.2.2 H → va_S (Ax lo) s.heap H locs → lv_has ls 8 [(2, .long z.1), (4, .long z.2.1)] → W p l e { frames := 2, cells := 0, slots := 0, locals := 43 } s m args below meth c H locs 0 0 Q (F0 m 95 ls [])), W p l e { frames := 2, cells := 0, slots := 0, locals := 43 } s m args below meth c H locs 0 0 Q (F0 m 22 ls []) := by
  have hx := C0.1
  have hb := C0.2.1
  intro n
  induction n with
  | zero =>
    intro v2 v4 v6 σ z hF
    rw [LX4_chord_22] at hF
    cases hF
  | succ n ih =>
    intro v2 v4 v6 σ z hF H locs ls hW hS hl kk
    rw [LX4_chord_22] at hF
    refine lv_iload hx hb dX4_chord_22 (lv_at hl 4 rfl) ?_
    refine lv_aload_n hx hb dX4_chord_24 rfl (lv_at hl 0 rfl) ?_
    refine get0 C0 hK hW 0 (al0 h 0 (by decide)) 2 (by decide) wFL_X4_24 rfl rfl dX4_chord_25 ?_
    refine get3 C0 hK hW 0 (al0 h 3 (by decide)) 1 (by decide) wFL_X4_245 rfl rfl dX4_chord_28 ?_
    refine lv_icmp_ge (tgt := 95) hx hb dX4_chord_31 (by decide) (fun c2 => ?_) (fun c2 => ?_)
    · rw [if_pos c2] at hF
      cases hF
      exact kk _ _ _ hW hS (lv_sub hl [2, 3] rfl)
    · rw [if_neg c2] at hF
      refine lv_aload_n hx hb dX4_chord_34 rfl (lv_at hl 0 rfl) ?_
      refine get0 C0 hK hW 0 (al0 h 0 (by decide)) 2 (by decide) wFL_X4_24 rfl rfl dX4_chord_35 ?_
      refine lv_iload hx hb dX4_chord_38 (lv_at hl 4 rfl) ?_
      refine lv_iconst (v := 0) hx hb dX4_chord_40 (by decide) ?_
      obtain ⟨z3, hz3, hF⟩ := bnd hF
      refine inI (runV C0 hlo hK hZ hW hS (kX2_told l lo g h _ v6 0  _ _ hz3) wCO_X2_told wML_X4_252 wIM_X2_told wSE_X2_X2_told wIN_X2 hdX2_told ⟨Nat.le_of_ble_eq_true rfl, Nat.le_of_ble_eq_true rfl⟩ (recvK hK hW (al0 h 3 (by decide)) (ct3 0) rfl) rfl hl.1 rfl (Nat.le_of_ble_eq_true rfl) dX4_chord_41 ⟨Nat.le_of_ble_eq_true rfl, Nat.le_of_ble_eq_true rfl⟩) hS (fun H locs hW hS => ?_)
      refine lv_iload_n hx hb dX4_chord_44 rfl (lv_at hl 1 rfl) ?_
      refine lv_icmp_ne (tgt := 89) hx hb dX4_chord_45 (by decide) (fun c4 => ?_) (fun c4 => ?_)
      · rw [if_neg c4] at hF
        refine lv_iinc (v := v6 + 1) (lv' := [(6, .int (v6 + 1)), (0, .ref (h.2.2 0 0)), (1, .int v1), (2, .long v2), (4, .long v4)]) hx hb dX4_chord_89 hl (k := 4) rfl rfl (by decide) rfl (fun ls hl => ?_)
        refine lv_goto (tgt := 22) hx hb dX4_chord_92 (by decide) ?_
        exact ih v2 v4 (v6 + 1) z3.2 z hF _ _ _ hW hS (lv_sub hl [1, 2, 3, 4, 0] rfl) kk
      · rw [if_pos c4] at hF
        refine lv_aload_n hx hb dX4_chord_48 rfl (lv_at hl 0 rfl) ?_
        refine get0 C0 hK hW 0 (al0 h 0 (by decide)) 2 (by decide) wFL_X4_24 rfl rfl dX4_chord_49 ?_
        refine lv_iload hx hb dX4_chord_52 (lv_at hl 4 rfl) ?_
        refine lv_iconst (v := 3) hx hb dX4_chord_54 (by decide) ?_
        obtain ⟨z5, hz5, hF⟩ := bnd hF
        refine inI (runV C0 hlo hK hZ hW hS (kX2_told l lo g h _ v6 3  _ _ hz5) wCO_X2_told wML_X4_252 wIM_X2_told wSE_X2_X2_told wIN_X2 hdX2_told ⟨Nat.le_of_ble_eq_true rfl, Nat.le_of_ble_eq_true rfl⟩ (recvK hK hW (al0 h 3 (by decide)) (ct3 0) rfl) rfl hl.1 rfl (Nat.le_of_ble_eq_true rfl) dX4_chord_55 ⟨Nat.le_of_ble_eq_true rfl, Nat.le_of_ble_eq_true rfl⟩) hS (fun H locs hW hS => ?_)
        refine lv_istore (lv' := [(7, .int z5.1), (0, .ref (h.2.2 0 0)), (1, .int v1), (2, .long v2), (4, .long v4), (6, .int v6)]) hx hb dX4_chord_58 hl (by decide) rfl (fun ls hl => ?_)
        refine lv_iload hx hb dX4_chord_60 (lv_at hl 0 rfl) ?_
        refine lv_bipush (v := 64) hx hb dX4_chord_62 (by decide) ?_
        refine lv_icmp_ge (tgt := 77) hx hb dX4_chord_64 (by decide) (fun c6 => ?_) (fun c6 => ?_)
        · rw [if_pos c6] at hF
          refine lv_lload hx hb dX4_chord_77 (lv_at hl 4 rfl) ?_
          refine lv_lconst (v := 1) hx hb dX4_chord_79 (by decide) ?_
          refine lv_iload hx hb dX4_chord_80 (lv_at hl 0 rfl) ?_
          refine lv_bipush (v := 64) hx hb dX4_chord_82 (by decide) ?_
          refine lv_isub hx hb dX4_chord_84 ?_
          refine lv_lshl hx hb dX4_chord_85 rfl ?_
          refine lv_lor hx hb dX4_chord_86 ?_
          refine lv_lstore (lv' := [(4, .long (v4 ||| ((1 : Int64) <<< ((z5.1 - 64).toInt64 &&& 63)))), (7, .int z5.1), (0, .ref (h.2.2 0 0)), (1, .int v1), (2, .long v2), (6, .int v6)]) hx hb dX4_chord_87 hl (by decide) rfl (fun ls hl => ?_)
          refine lv_iinc (v := v6 + 1) (lv' := [(6, .int (v6 + 1)), (4, .long (v4 ||| ((1 : Int64) <<< ((z5.1 - 64).toInt64 &&& 63)))), (7, .int z5.1), (0, .ref (h.2.2 0 0)), (1, .int v1), (2, .long v2)]) hx hb dX4_chord_89 hl (k := 5) rfl rfl (by decide) rfl (fun ls hl => ?_)
          refine lv_goto (tgt := 22) hx hb dX4_chord_92 (by decide) ?_
          exact ih v2 (v4 ||| ((1 : Int64) <<< ((z5.1 - 64).toInt64 &&& 63))) (v6 + 1) z5.2 z hF _ _ _ hW hS (lv_sub hl [3, 4, 5, 1, 0] rfl) kk
        · rw [if_neg c6] at hF
          refine lv_lload_n hx hb dX4_chord_67 rfl (lv_at hl 3 rfl) ?_
          refine lv_lconst (v := 1) hx hb dX4_chord_68 (by decide) ?_
          refine lv_iload hx hb dX4_chord_69 (lv_at hl 0 rfl) ?_
          refine lv_lshl hx hb dX4_chord_71 rfl ?_
          refine lv_lor hx hb dX4_chord_72 ?_
          refine lv_lstore_n (lv' := [(2, .long (v2 ||| ((1 : Int64) <<< (z5.1.toInt64 &&& 63)))), (7, .int z5.1), (0, .ref (h.2.2 0 0)), (1, .int v1), (4, .long v4), (6, .int v6)]) hx hb dX4_chord_73 rfl hl (by decide) rfl (fun ls hl => ?_)
          refine lv_goto (tgt := 89) hx hb dX4_chord_74 (by decide) ?_
          refine lv_iinc (v := v6 + 1) (lv' := [(6, .int (v6 + 1)), (2, .long (v2 ||| ((1 : Int64) <<< (z5.1.toInt64 &&& 63)))), (7, .int z5.1), (0, .ref (h.2.2 0 0)), (1, .int v1), (4, .long v4)]) hx hb dX4_chord_89 hl (k := 5) rfl rfl (by decide) rfl (fun ls hl => ?_)
          refine lv_goto (tgt := 22) hx hb dX4_chord_92 (by decide) ?_
          exact ih (v2 ||| ((1 : Int64) <<< (z5.1.toInt64 &&& 63))) v4 (v6 + 1) z5.2 z hF _ _ _ hW hS (lv_sub hl [3, 4, 1, 5, 0] rfl) kk
set_option maxHeartbeats 4000000 in
set_option maxRecDepth 100000 in
theorem nX4_chord (l : Launch) (lo : Nat) (g : Gx) (h : Sh) (σ : Sg) (a1 : Int32)  (r : Int32) (σ1 : Sg) (hF : FX4_chord h.1 h.2.1 σ a1 = some (.inr r, σ1)) : MI l yX4_chord (ws_ yX4_chord cX4_chord 8 (some .int)) 2 43 0 0 lo g h [.ref (h.2.2 0 0), .int a1] σ r σ1 := by
  refine ofB (own := RX4) (by decide +kernel) rfl (fun p e s m below meth c C0 hr hlk hlo hK hZ hW hS ls hl => ?_) (Nat.le_of_ble_eq_true rfl)
  have hx := C0.1
  have hb := C0.2.1
  have hl : lv_has ls 8 [(0, .ref (h.2.2 0 0)), (1, .int a1)] := hl
  unfold FX4_chord at hF
  refine lv_iload_n hx hb dX4_chord_0 rfl (lv_at hl 1 rfl) ?_
  refine lv_if_ge (tgt := 14) hx hb dX4_chord_1 (by decide) (fun c1 => ?_) (fun c1 => ?_)
  · rw [if_pos c1] at hF
    refine lv_lconst (v := 0) hx hb dX4_chord_14 (by decide) ?_
    refine lv_lstore_n (lv' := [(2, .long 0), (0, .ref (h.2.2 0 0)), (1, .int a1)]) hx hb dX4_chord_15 rfl hl (by decide) rfl (fun ls hl => ?_)
    refine lv_lconst (v := 0) hx hb dX4_chord_16 (by decide) ?_
    refine lv_lstore (lv' := [(4, .long 0), (2, .long 0), (0, .ref (h.2.2 0 0)), (1, .int a1)]) hx hb dX4_chord_17 hl (by decide) rfl (fun ls hl => ?_)
    refine lv_iconst (v := 0) hx hb dX4_chord_19 (by decide) ?_
    refine lv_istore (lv' := [(6, .int 0), (4, .long 0), (2, .long 0), (0, .ref (h.2.2 0 0)), (1, .int a1)]) hx hb dX4_chord_20 hl (by decide) rfl (fun ls hl => ?_)
    obtain ⟨z7, hz7, hF⟩ := bnd hF
    refine lX4_chord_22 C0 hlo hK hZ a1  _ 0 0 0 _ z7 hz7 _ _ _ hW hS (lv_sub hl [3, 4, 2, 1, 0] rfl) (fun H locs ls hW hS hl => ?_)
    refine lv_lload_n hx hb dX4_chord_95 rfl (lv_at hl 0 rfl) ?_
    obtain ⟨z8, hz8, hF⟩ := bnd hF
    refine inI (runS C0 hlo hK hZ hW hS (kJ13_bitCount_95d88 l lo g h _ z7.1  _ _ hz8) wCO_J13_bitCount_95d88 wML_X4_257 wST_J13_bitCount_95d88 wIN_J13 hdsJ13_bitCount_95d88 ⟨Nat.le_of_ble_eq_true rfl, Nat.le_of_ble_eq_true rfl⟩ rfl hl.1 rfl (Nat.le_of_ble_eq_true rfl) dX4_chord_96 ⟨Nat.le_of_ble_eq_true rfl, Nat.le_of_ble_eq_true rfl⟩) hS (fun H locs hW hS => ?_)
    refine lv_lload hx hb dX4_chord_99 (lv_at hl 1 rfl) ?_
    obtain ⟨z9, hz9, hF⟩ := bnd hF
    refine inI (runS C0 hlo hK hZ hW hS (kJ13_bitCount_95d88 l lo g h _ z7.2.1  _ _ hz9) wCO_J13_bitCount_95d88 wML_X4_257 wST_J13_bitCount_95d88 wIN_J13 hdsJ13_bitCount_95d88 ⟨Nat.le_of_ble_eq_true rfl, Nat.le_of_ble_eq_true rfl⟩ rfl hl.1 rfl (Nat.le_of_ble_eq_true rfl) dX4_chord_101 ⟨Nat.le_of_ble_eq_true rfl, Nat.le_of_ble_eq_true rfl⟩) hS (fun H locs hW hS => ?_)
    refine lv_iadd hx hb dX4_chord_104 ?_
    cases hF
    exact retI C0 hr hlk hW hS dX4_chord_105
  · rw [if_neg c1] at hF
    cases hF
theorem hdX4_longest : yX4_longest.cls = RX4 ∧ yX4_longest.cls ≠ "java/lang/invoke/MethodHandle" ∧ yX4_longest.cls ≠ "java/lang/invoke/VarHandle" ∧ (parseMethodDescriptor yX4_longest.desc).map (fun d => d.parameters.length) = some 0 := by decide +kernel
def LX4_longest_9 (ns nb : Nat) : Nat → Int32 → Int32 → Int32 → Int32 → Sg → Option (Int32 × Sg)
  | 0, _, _, _, _, _ => none
  | n + 1, v1, v2, v3, v4, σ => if (σ.1 3 0 1) ≤ v4 then (some (v1, σ)) else ((FX2_told ns nb σ v4 1).bind fun z2 => if z2.1 = v3 then (LX4_longest_9 ns nb  n (mxI v1 (v2 + 1)) (v2 + 1) z2.1 (v4 + 1) z2.2) else (LX4_longest_9 ns nb  n (mxI v1 1) 1 z2.1 (v4 + 1) z2.2))
def FX4_longest (ns nb : Nat) (σ : Sg)  : Option (Int32 × Sg) :=
  (LX4_longest_9 ns nb  4100 0 0 (-1) 0 σ).bind fun z4 => some (z4.1, z4.2)
set_option maxHeartbeats 4000000 in
set_option maxRecDepth 100000 in
theorem lX4_longest_9 {p : Program} {l : Launch} {e : Env} {s : State} {m : MethodId} {args : Array Value} {below : List Frame} {meth : Method} {c : Code} {Q : State → Prop} {lo : Nat} {g : Gx} {h : Sh} (C0 : CallFix p m c cX4_longest 6 s args wB RX4) (hlo : lo ≤ s.heap.size) (hK : KW g s) (hZ : ZW lo s s.heap)   : ∀ (n : Nat) (v1 : Int32) (v2 : Int32) (v3 : Int32) (v4 : Int32) (σ : Sg) (z : (Int32 × Sg)) (hF : LX4_longest_9 h.1 h.2.1  n v1 v2 v3 v4 σ = some z) (H : Heap) (locs : List Loc) (ls : Array Slot) (hW : FW g h (Ax lo) σ H) (hS : va_S (Ax lo) s.heap H locs) (hl : lv_has ls 6 [(0, .ref (h.2.2 0 0)), (1, .int v1), (2, .int v2), (3, .int v3), (4, .int v4)]) (kk : ∀ (H : Heap) (locs : List Loc) (ls : Array Slot), FW g h (Ax lo) z.2 H → va_S (Ax lo) s.heap H locs → lv_has ls 6 [(1, .int z.1)] → W p l e { frames := 2, cells := 0, slots := 0, locals := 43 } s m args below meth c H locs 0 0 Q (F0 m 62 ls [])), W p l e { frames := 2, cells := 0, slots := 0, locals := 43 } s m args below meth c H locs 0 0 Q (F0 m 9 ls []) := by
  have hx := C0.1
  have hb := C0.2.1
  intro n
  induction n with
  | zero =>
    intro v1 v2 v3 v4 σ z hF
    rw [LX4_longest_9] at hF
    cases hF
  | succ n ih =>
    intro v1 v2 v3 v4 σ z hF H locs ls hW hS hl kk
    rw [LX4_longest_9] at hF
    refine lv_iload hx hb dX4_longest_9 (lv_at hl 4 rfl) ?_
    refine lv_aload_n hx hb dX4_longest_11 rfl (lv_at hl 0 rfl) ?_
    refine get0 C0 hK hW 0 (al0 h 0 (by decide)) 2 (by decide) wFL_X4_24 rfl rfl dX4_longest_12 ?_
    refine get3 C0 hK hW 0 (al0 h 3 (by decide)) 1 (by decide) wFL_X4_245 rfl rfl dX4_longest_15 ?_
    refine lv_icmp_ge (tgt := 62) hx hb dX4_longest_18 (by decide) (fun c1 => ?_) (fun c1 => ?_)
    · rw [if_pos c1] at hF
      cases hF
      exact kk _ _ _ hW hS (lv_sub hl [1] rfl)
    · rw [if_neg c1] at hF
      refine lv_aload_n hx hb dX4_longest_21 rfl (lv_at hl 0 rfl) ?_
      refine get0 C0 hK hW 0 (al0 h 0 (by decide)) 2 (by decide) wFL_X4_24 rfl rfl dX4_longest_22 ?_
      refine lv_iload hx hb dX4_longest_25 (lv_at hl 4 rfl) ?_
      refine lv_iconst (v := 1) hx hb dX4_longest_27 (by decide) ?_
      obtain ⟨z2, hz2, hF⟩ := bnd hF
      refine inI (runV C0 hlo hK hZ hW hS (kX2_told l lo g h _ v4 1  _ _ hz2) wCO_X2_told wML_X4_252 wIM_X2_told wSE_X2_X2_told wIN_X2 hdX2_told ⟨Nat.le_of_ble_eq_true rfl, Nat.le_of_ble_eq_true rfl⟩ (recvK hK hW (al0 h 3 (by decide)) (ct3 0) rfl) rfl hl.1 rfl (Nat.le_of_ble_eq_true rfl) dX4_longest_28 ⟨Nat.le_of_ble_eq_true rfl, Nat.le_of_ble_eq_true rfl⟩) hS (fun H locs hW hS => ?_)
      refine lv_istore (lv' := [(5, .int z2.1), (0, .ref (h.2.2 0 0)), (1, .int v1), (2, .int v2), (3, .int v3), (4, .int v4)]) hx hb dX4_longest_31 hl (by decide) rfl (fun ls hl => ?_)
      refine lv_iload hx hb dX4_longest_33 (lv_at hl 0 rfl) ?_
      refine lv_iload_n hx hb dX4_longest_35 rfl (lv_at hl 4 rfl) ?_
      refine lv_icmp_ne (tgt := 45) hx hb dX4_longest_36 (by decide) (fun c3 => ?_) (fun c3 => ?_)
      · rw [if_neg c3] at hF
        refine lv_iconst (v := 1) hx hb dX4_longest_45 (by decide) ?_
        refine lv_istore_n (lv' := [(2, .int 1), (5, .int z2.1), (0, .ref (h.2.2 0 0)), (1, .int v1), (3, .int v3), (4, .int v4)]) hx hb dX4_longest_46 rfl hl (by decide) rfl (fun ls hl => ?_)
        refine lv_iload hx hb dX4_longest_47 (lv_at hl 1 rfl) ?_
        refine lv_istore_n (lv' := [(3, .int z2.1), (2, .int 1), (5, .int z2.1), (0, .ref (h.2.2 0 0)), (1, .int v1), (4, .int v4)]) hx hb dX4_longest_49 rfl hl (by decide) rfl (fun ls hl => ?_)
        refine lv_iload_n hx hb dX4_longest_50 rfl (lv_at hl 4 rfl) ?_
        refine lv_iload_n hx hb dX4_longest_51 rfl (lv_at hl 1 rfl) ?_
        refine r_max C0 hl.1 wML_X4_262 (Nat.le_of_ble_eq_true rfl) (Nat.le_of_ble_eq_true rfl) (Nat.le_of_ble_eq_true rfl) (Nat.le_of_ble_eq_true rfl) dX4_longest_52 ?_
        refine lv_istore_n (lv' := [(1, .int (mxI v1 1)), (3, .int z2.1), (2, .int 1), (5, .int z2.1), (0, .ref (h.2.2 0 0)), (4, .int v4)]) hx hb dX4_longest_55 rfl hl (by decide) rfl (fun ls hl => ?_)
        refine lv_iinc (v := v4 + 1) (lv' := [(4, .int (v4 + 1)), (1, .int (mxI v1 1)), (3, .int z2.1), (2, .int 1), (5, .int z2.1), (0, .ref (h.2.2 0 0))]) hx hb dX4_longest_56 hl (k := 5) rfl rfl (by decide) rfl (fun ls hl => ?_)
        refine lv_goto (tgt := 9) hx hb dX4_longest_59 (by decide) ?_
        exact ih (mxI v1 1) 1 z2.1 (v4 + 1) z2.2 z hF _ _ _ hW hS (lv_sub hl [5, 1, 3, 2, 0] rfl) kk
      · rw [if_pos c3] at hF
        refine lv_iload_n hx hb dX4_longest_39 rfl (lv_at hl 3 rfl) ?_
        refine lv_iconst (v := 1) hx hb dX4_longest_40 (by decide) ?_
        refine lv_iadd hx hb dX4_longest_41 ?_
        refine lv_goto (tgt := 46) hx hb dX4_longest_42 (by decide) ?_
        refine lv_istore_n (lv' := [(2, .int (v2 + 1)), (5, .int z2.1), (0, .ref (h.2.2 0 0)), (1, .int v1), (3, .int v3), (4, .int v4)]) hx hb dX4_longest_46 rfl hl (by decide) rfl (fun ls hl => ?_)
        refine lv_iload hx hb dX4_longest_47 (lv_at hl 1 rfl) ?_
        refine lv_istore_n (lv' := [(3, .int z2.1), (2, .int (v2 + 1)), (5, .int z2.1), (0, .ref (h.2.2 0 0)), (1, .int v1), (4, .int v4)]) hx hb dX4_longest_49 rfl hl (by decide) rfl (fun ls hl => ?_)
        refine lv_iload_n hx hb dX4_longest_50 rfl (lv_at hl 4 rfl) ?_
        refine lv_iload_n hx hb dX4_longest_51 rfl (lv_at hl 1 rfl) ?_
        refine r_max C0 hl.1 wML_X4_262 (Nat.le_of_ble_eq_true rfl) (Nat.le_of_ble_eq_true rfl) (Nat.le_of_ble_eq_true rfl) (Nat.le_of_ble_eq_true rfl) dX4_longest_52 ?_
        refine lv_istore_n (lv' := [(1, .int (mxI v1 (v2 + 1))), (3, .int z2.1), (2, .int (v2 + 1)), (5, .int z2.1), (0, .ref (h.2.2 0 0)), (4, .int v4)]) hx hb dX4_longest_55 rfl hl (by decide) rfl (fun ls hl => ?_)
        refine lv_iinc (v := v4 + 1) (lv' := [(4, .int (v4 + 1)), (1, .int (mxI v1 (v2 + 1))), (3, .int z2.1), (2, .int (v2 + 1)), (5, .int z2.1), (0, .ref (h.2.2 0 0))]) hx hb dX4_longest_56 hl (k := 5) rfl rfl (by decide) rfl (fun ls hl => ?_)
        refine lv_goto (tgt := 9) hx hb dX4_longest_59 (by decide) ?_
        exact ih (mxI v1 (v2 + 1)) (v2 + 1) z2.1 (v4 + 1) z2.2 z hF _ _ _ hW hS (lv_sub hl [5, 1, 3, 2, 0] rfl) kk
set_option maxHeartbeats 4000000 in
set_option maxRecDepth 100000 in
theorem kX4_longest (l : Launch) (lo : Nat) (g : Gx) (h : Sh) (σ : Sg)   (r : Int32) (σ1 : Sg) (hF : FX4_longest h.1 h.2.1 σ  = some (r, σ1)) : MI l yX4_longest (ws_ yX4_longest cX4_longest 6 (some .int)) 2 43 0 0 lo g h [.ref (h.2.2 0 0)] σ r σ1 := by
  refine ofB (own := RX4) (by decide +kernel) rfl (fun p e s m below meth c C0 hr hlk hlo hK hZ hW hS ls hl => ?_) (Nat.le_of_ble_eq_true rfl)
  have hx := C0.1
  have hb := C0.2.1
  have hl : lv_has ls 6 [(0, .ref (h.2.2 0 0))] := hl
  unfold FX4_longest at hF
  refine lv_iconst (v := 0) hx hb dX4_longest_0 (by decide) ?_
  refine lv_istore_n (lv' := [(1, .int 0), (0, .ref (h.2.2 0 0))]) hx hb dX4_longest_1 rfl hl (by decide) rfl (fun ls hl => ?_)
  refine lv_iconst (v := 0) hx hb dX4_longest_2 (by decide) ?_
  refine lv_istore_n (lv' := [(2, .int 0), (1, .int 0), (0, .ref (h.2.2 0 0))]) hx hb dX4_longest_3 rfl hl (by decide) rfl (fun ls hl => ?_)
  refine lv_iconst (v := (-1)) hx hb dX4_longest_4 (by decide) ?_
  refine lv_istore_n (lv' := [(3, .int (-1)), (2, .int 0), (1, .int 0), (0, .ref (h.2.2 0 0))]) hx hb dX4_longest_5 rfl hl (by decide) rfl (fun ls hl => ?_)
  refine lv_iconst (v := 0) hx hb dX4_longest_6 (by decide) ?_
  refine lv_istore (lv' := [(4, .int 0), (3, .int (-1)), (2, .int 0), (1, .int 0), (0, .ref (h.2.2 0 0))]) hx hb dX4_longest_7 hl (by decide) rfl (fun ls hl => ?_)
  obtain ⟨z4, hz4, hF⟩ := bnd hF
  refine lX4_longest_9 C0 hlo hK hZ   _ 0 0 (-1) 0 _ z4 hz4 _ _ _ hW hS (lv_sub hl [4, 3, 2, 1, 0] rfl) (fun H locs ls hW hS hl => ?_)
  refine lv_iload_n hx hb dX4_longest_62 rfl (lv_at hl 0 rfl) ?_
  cases hF
  exact retI C0 hr hlk hW hS dX4_longest_63
theorem hdX4_emptySongs : yX4_emptySongs.cls = RX4 ∧ yX4_emptySongs.cls ≠ "java/lang/invoke/MethodHandle" ∧ yX4_emptySongs.cls ≠ "java/lang/invoke/VarHandle" ∧ (parseMethodDescriptor yX4_emptySongs.desc).map (fun d => d.parameters.length) = some 0 := by decide +kernel
def FX4_emptySongs (ns nb : Nat) (σ : Sg)  : Option (Int32 × Sg) :=
  (FX2_clearAll ns nb σ ).bind fun z1 => some (σ.1 3 0 1, z1)
set_option maxHeartbeats 4000000 in
set_option maxRecDepth 100000 in
theorem kX4_emptySongs (l : Launch) (lo : Nat) (g : Gx) (h : Sh) (σ : Sg)   (r : Int32) (σ1 : Sg) (hF : FX4_emptySongs h.1 h.2.1 σ  = some (r, σ1)) : MI l yX4_emptySongs (ws_ yX4_emptySongs cX4_emptySongs 2 (some .int)) 1 20 0 0 lo g h [.ref (h.2.2 0 0)] σ r σ1 := by
  refine ofB (own := RX4) (by decide +kernel) rfl (fun p e s m below meth c C0 hr hlk hlo hK hZ hW hS ls hl => ?_) (Nat.le_of_ble_eq_true rfl)
  have hx := C0.1
  have hb := C0.2.1
  have hl : lv_has ls 2 [(0, .ref (h.2.2 0 0))] := hl
  unfold FX4_emptySongs at hF
  refine lv_aload_n hx hb dX4_emptySongs_0 rfl (lv_at hl 0 rfl) ?_
  refine get0 C0 hK hW 0 (al0 h 0 (by decide)) 2 (by decide) wFL_X4_24 rfl rfl dX4_emptySongs_1 ?_
  refine get3 C0 hK hW 0 (al0 h 3 (by decide)) 1 (by decide) wFL_X4_245 rfl rfl dX4_emptySongs_4 ?_
  refine lv_istore_n (lv' := [(1, .int (σ.1 3 0 1)), (0, .ref (h.2.2 0 0))]) hx hb dX4_emptySongs_7 rfl hl (by decide) rfl (fun ls hl => ?_)
  refine lv_aload_n hx hb dX4_emptySongs_8 rfl (lv_at hl 1 rfl) ?_
  refine get0 C0 hK hW 0 (al0 h 0 (by decide)) 2 (by decide) wFL_X4_24 rfl rfl dX4_emptySongs_9 ?_
  obtain ⟨z1, hz1, hF⟩ := bnd hF
  refine inV (runV C0 hlo hK hZ hW hS (kX2_clearAll l lo g h _   _ hz1) wCO_X2_clearAll wML_X4_265 wIM_X2_clearAll wSE_X2_X2_clearAll wIN_X2 hdX2_clearAll ⟨Nat.le_of_ble_eq_true rfl, Nat.le_of_ble_eq_true rfl⟩ (recvK hK hW (al0 h 3 (by decide)) (ct3 0) rfl) rfl hl.1 rfl (Nat.le_of_ble_eq_true rfl) dX4_emptySongs_12 ⟨Nat.le_of_ble_eq_true rfl, Nat.le_of_ble_eq_true rfl⟩) hS (fun H locs hW hS => ?_)
  refine lv_iload_n hx hb dX4_emptySongs_15 rfl (lv_at hl 0 rfl) ?_
  cases hF
  exact retI C0 hr hlk hW hS dX4_emptySongs_16
theorem hdsL_below : yL_below.cls ≠ "java/lang/invoke/MethodHandle" ∧ yL_below.cls ≠ "java/lang/invoke/VarHandle" ∧ (parseMethodDescriptor yL_below.desc).map (fun d => d.parameters.length) = some 2 := by decide +kernel
def FL_below (ns nb : Nat) (σ : Sg) (a0 : Int32) (a1 : Int32) : Option (Int32 × Sg) :=
  if a1 = 0 then none else (some ((a0 &&& 2147483647) - (a0 &&& 2147483647) / a1 * a1, σ))
set_option maxHeartbeats 4000000 in
set_option maxRecDepth 100000 in
theorem kL_below (l : Launch) (lo : Nat) (g : Gx) (h : Sh) (σ : Sg) (a0 : Int32) (a1 : Int32)  (r : Int32) (σ1 : Sg) (hF : FL_below h.1 h.2.1 σ a0 a1 = some (r, σ1)) : MI l yL_below (ws_ yL_below cL_below 2 (some .int)) 0 0 0 0 lo g h [.int a0, .int a1] σ r σ1 := by
  refine ofB (own := RL) (by decide +kernel) rfl (fun p e s m below meth c C0 hr hlk hlo hK hZ hW hS ls hl => ?_) (Nat.le_of_ble_eq_true rfl)
  have hx := C0.1
  have hb := C0.2.1
  have hl : lv_has ls 2 [(0, .int a0), (1, .int a1)] := hl
  unfold FL_below at hF
  refine lv_iload_n hx hb dL_below_0 rfl (lv_at hl 0 rfl) ?_
  refine lv_ldc hx hb C0.2.2.2.1 (C0.2.2.2.2 _ wconstant_L_7) dL_below_1 ?_
  refine lv_iand hx hb dL_below_3 ?_
  refine lv_iload_n hx hb dL_below_4 rfl (lv_at hl 1 rfl) ?_
  obtain ⟨hg, hF⟩ := grd hF
  refine lv_irem hx hb dL_below_5 hg ?_
  cases hF
  exact retI C0 hr hlk hW hS dL_below_6
