theorem hdX4_addSpring : yX4_addSpring.cls = RX4 ∧ yX4_addSpring.cls ≠ "java/lang/invoke/MethodHandle" ∧ yX4_addSpring.cls ≠ "java/lang/invoke/VarHandle" ∧ (parseMethodDescriptor yX4_addSpring.desc).map (fun d => d.parameters.length) = some 1 := by decide +kernel
def FX4_addSpring (ns nb : Nat) (σ : Sg) (a1 : Int32) : Option ((Nat ⊕ Int32) × Sg) :=
  (FX4_isIn ns nb σ a1 1 50).bind fun z1 => if z1.1 = 0 then (some (.inl 2, z1.2)) else (if (z1.2.1 0 0 3) < 0 then (some (.inl 3, z1.2)) else (if (z1.2.1 0 0 3) < 4 then (if ((z1.2.1 0 0 3) < 0 ∨ 4 ≤ (z1.2.1 0 0 3).toNatClampNeg) then none else (if (z1.2.1 0 0 3).toNatClampNeg = ns then (some (.inr (z1.2.1 0 0 3), (sI (sgS z1.2 ns a1) 0 0 3 (((sgS z1.2 ns a1).1 0 0 3) + 1)))) else none)) else (some (.inl 3, z1.2))))
set_option maxHeartbeats 4000000 in
set_option maxRecDepth 100000 in
theorem nX4_addSpring (l : Launch) (lo : Nat) (g : Gx) (h : Sh) (σ : Sg) (a1 : Int32)  (r : Int32) (σ1 : Sg) (hF : FX4_addSpring h.1 h.2.1 σ a1 = some (.inr r, σ1)) : Met l yX4_addSpring (ws_ yX4_addSpring cX4_addSpring 3 (some .int)) { frames := 2, cells := 1, slots := 8, locals := 53 } (va_Pc [.ref (h.2.2 0 0), .int a1] (WD lo g h σ)) (va_Qi (fun (r' : Int32) (_ : Nat) => r' = r) (fun v t => FW g (shS h v) (Ax lo) σ1 t.heap) (Ax lo)) 1 8 (Ax lo) := by
  refine ofB (own := RX4) (by decide +kernel) rfl (fun p e s m below meth c C0 hr hlk hlo hK hZ hW hS ls hl => ?_) (Nat.le_of_ble_eq_true rfl)
  have hx := C0.1
  have hb := C0.2.1
  have hl : lv_has ls 3 [(0, .ref (h.2.2 0 0)), (1, .int a1)] := hl
  unfold FX4_addSpring at hF
  refine lv_iload_n hx hb dX4_addSpring_0 rfl (lv_at hl 1 rfl) ?_
  refine lv_iconst (v := 1) hx hb dX4_addSpring_1 (by decide) ?_
  refine lv_bipush (v := 50) hx hb dX4_addSpring_2 (by decide) ?_
  obtain ⟨z1, hz1, hF⟩ := bnd hF
  refine inI (runS C0 hlo hK hZ hW hS (kX4_isIn l lo g h _ a1 1 50  _ _ hz1) wCO_X4_isIn wML_X4_28 wST_X4_isIn wIN_X4 hdsX4_isIn ⟨Nat.le_of_ble_eq_true rfl, Nat.le_of_ble_eq_true rfl⟩ rfl hl.1 rfl (Nat.le_of_ble_eq_true rfl) dX4_addSpring_4 ⟨Nat.le_of_ble_eq_true rfl, Nat.le_of_ble_eq_true rfl⟩) hS (fun H locs hW hS => ?_)
  refine lv_if_ne (tgt := 20) hx hb dX4_addSpring_7 (by decide) (fun c2 => ?_) (fun c2 => ?_)
  · rw [if_neg c2] at hF
    refine lv_aload_n hx hb dX4_addSpring_20 rfl (lv_at hl 0 rfl) ?_
    refine get0 C0 hK hW 0 (al0 h 0 (by decide)) 3 (by decide) wFL_X4_39 rfl rfl dX4_addSpring_21 ?_
    refine lv_istore_n (lv' := [(2, .int (z1.2.1 0 0 3)), (0, .ref (h.2.2 0 0)), (1, .int a1)]) hx hb dX4_addSpring_24 rfl hl (by decide) rfl (fun ls hl => ?_)
    refine lv_iload_n hx hb dX4_addSpring_25 rfl (lv_at hl 0 rfl) ?_
    refine lv_if_lt (tgt := 38) hx hb dX4_addSpring_26 (by decide) (fun c3 => ?_) (fun c3 => ?_)
    · rw [if_pos c3] at hF
      cases hF
    · rw [if_neg c3] at hF
      refine lv_iload_n hx hb dX4_addSpring_29 rfl (lv_at hl 0 rfl) ?_
      refine lv_aload_n hx hb dX4_addSpring_30 rfl (lv_at hl 1 rfl) ?_
      refine get0 C0 hK hW 0 (al0 h 0 (by decide)) 0 (by decide) wFL_X4_11 rfl rfl dX4_addSpring_31 ?_
      refine len1 C0 hK hW dX4_addSpring_34 ?_
      refine lv_icmp_lt (tgt := 48) hx hb dX4_addSpring_35 (by decide) (fun c4 => ?_) (fun c4 => ?_)
      · rw [if_pos c4] at hF
        refine lv_aload_n hx hb dX4_addSpring_48 rfl (lv_at hl 1 rfl) ?_
        refine get0 C0 hK hW 0 (al0 h 0 (by decide)) 0 (by decide) wFL_X4_11 rfl rfl dX4_addSpring_49 ?_
        refine lv_iload_n hx hb dX4_addSpring_52 rfl (lv_at hl 0 rfl) ?_
        obtain ⟨hg, hF⟩ := grd hF
        obtain ⟨hcnt, hF⟩ := grp hF
        refine newX (C := RX3) (T := TX3) (N := 8) (ci := 3) (ty := tyX3) (fs := [.int 0, .int 0, .long 0, .int 0, .int 0, .int 0, .long 0, .int 0]) C0 hK hW.X hS (fun q hq => Nat.le_trans hlo hq) inX3_B tyX3_ok wCL_X4_9 wIS_X3 wIN_X3 rfl (fun j hj => by rcases (show j = 0 ∨ j = 1 ∨ j = 2 ∨ j = 3 ∨ j = 4 ∨ j = 5 ∨ j = 6 ∨ j = 7 by omega) with rfl | rfl | rfl | rfl | rfl | rfl | rfl | rfl <;> rfl) (Nat.le_of_ble_eq_true rfl) (Nat.le_of_ble_eq_true rfl) dX4_addSpring_53 (fun q H hX hS => ?_)
        refine lv_dup hx hb dX4_addSpring_56 rfl ?_
        refine lv_iload_n hx hb dX4_addSpring_57 rfl (lv_at hl 2 rfl) ?_
        refine inC (w1 := fun u => [(q, .inr (3, [.int a1, .int 0, .long 0, .int 0, .int 0, .int 0, .long 0, .int 0]))]) (runC C0 hK hX (kX3_init l g q H.size a1) rfl wCO_X3_init wML_X4_48 wIM_X3_init wIN_X3 hdiX3_init ⟨(Nat.le_of_ble_eq_true rfl), (Nat.le_of_ble_eq_true rfl)⟩ rfl hl.1 rfl (Nat.le_of_ble_eq_true rfl) dX4_addSpring_58 ⟨(Nat.le_of_ble_eq_true rfl), (Nat.le_of_ble_eq_true rfl)⟩) hX hlo hS (fun u H locs hX hS => ?_)
        refine astX C0 hK hX hS 1 3 (al0 h 1 (by decide)) (ct1 0) rfl 0 rfl rfl hg dX4_addSpring_61 (fun H locs hX hS => ?_)
        rw [hcnt] at hX
        have hW : FW g (shS h q) (Ax lo) (sgS z1.2 h.1 a1) H := addS hX
        refine lv_aload_n hx hb dX4_addSpring_62 rfl (lv_at hl 1 rfl) ?_
        refine lv_dup hx hb dX4_addSpring_63 rfl ?_
        refine get0 (h := (shS h q)) C0 hK hW 0 (al0 _ 0 (by decide)) 3 (by decide) wFL_X4_39 rfl rfl dX4_addSpring_64 ?_
        refine lv_iconst (v := 1) hx hb dX4_addSpring_67 (by decide) ?_
        refine lv_iadd hx hb dX4_addSpring_68 ?_
        refine put0_3 (h := (shS h q)) C0 hK hW hS 0 (al0 _ 0 (by decide)) wFL_X4_39 dX4_addSpring_69 (fun H locs hW hS => ?_)
        refine lv_iload_n hx hb dX4_addSpring_72 rfl (lv_at hl 0 rfl) ?_
        cases hF
        exact retIg q C0 hr hlk (fun t ht => by subst ht; exact hW) hS dX4_addSpring_73
      · rw [if_neg c4] at hF
        cases hF
  · rw [if_pos c2] at hF
    cases hF
theorem hdX4_addBird : yX4_addBird.cls = RX4 ∧ yX4_addBird.cls ≠ "java/lang/invoke/MethodHandle" ∧ yX4_addBird.cls ≠ "java/lang/invoke/VarHandle" ∧ (parseMethodDescriptor yX4_addBird.desc).map (fun d => d.parameters.length) = some 5 := by decide +kernel
def FX4_addBird (ns nb : Nat) (σ : Sg) (a1 : Int32) (a2 : Int32) (a3 : Int32) (a4 : Int32) (a5 : Int32) : Option ((Nat ⊕ Int32) × Sg) :=
  (FX4_springAt ns nb σ a1).bind fun z1 => oc z1.1 (some (.inl 1, z1.2)) (fun iz1 => if iz1 < ns then ((FX4_isIn ns nb z1.2 a2 0 20).bind fun z2 => if z2.1 = 0 then (some (.inl 2, z2.2)) else ((FX4_isIn ns nb z2.2 a3 8 96).bind fun z4 => if z4.1 = 0 then (some (.inl 2, z4.2)) else ((FX4_isIn ns nb z4.2 a4 1 12).bind fun z6 => if z6.1 = 0 then (some (.inl 2, z6.2)) else ((FX4_isIn ns nb z6.2 a5 1 12).bind fun z8 => if z8.1 = 0 then (some (.inl 2, z8.2)) else (if (z8.2.1 0 0 4) < 0 then (some (.inl 3, z8.2)) else (if (z8.2.1 0 0 4) < 8 then (if ((z8.2.1 0 0 4) < 0 ∨ 8 ≤ (z8.2.1 0 0 4).toNatClampNeg) then none else (if (z8.2.1 0 0 4).toNatClampNeg = nb then (some (.inr (z8.2.1 0 0 4), (sI (sgB z8.2 nb a1 a2 a3 a4 a5 (z8.2.2 5 iz1 2)) 0 0 4 (((sgB z8.2 nb a1 a2 a3 a4 a5 (z8.2.2 5 iz1 2)).1 0 0 4) + 1)))) else none)) else (some (.inl 3, z8.2)))))))) else none)
set_option maxHeartbeats 4000000 in
set_option maxRecDepth 100000 in
theorem nX4_addBird (l : Launch) (lo : Nat) (g : Gx) (h : Sh) (σ : Sg) (a1 : Int32) (a2 : Int32) (a3 : Int32) (a4 : Int32) (a5 : Int32)  (r : Int32) (σ1 : Sg) (hF : FX4_addBird h.1 h.2.1 σ a1 a2 a3 a4 a5 = some (.inr r, σ1)) : Met l yX4_addBird (ws_ yX4_addBird cX4_addBird 8 (some .int)) { frames := 3, cells := 13, slots := 705, locals := 80 } (va_Pc [.ref (h.2.2 0 0), .int a1, .int a2, .int a3, .int a4, .int a5] (WD lo g h σ)) (va_Qi (fun (r' : Int32) (_ : Nat × (Nat → Nat)) => r' = r) (fun v t => FW g (shB h v.1 v.2) (Ax lo) σ1 t.heap) (Ax lo)) 13 705 (Ax lo) := by
  refine ofB (own := RX4) (by decide +kernel) rfl (fun p e s m below meth c C0 hr hlk hlo hK hZ hW hS ls hl => ?_) (Nat.le_of_ble_eq_true rfl)
  have hx := C0.1
  have hb := C0.2.1
  have hl : lv_has ls 8 [(0, .ref (h.2.2 0 0)), (1, .int a1), (2, .int a2), (3, .int a3), (4, .int a4), (5, .int a5)] := hl
  unfold FX4_addBird at hF
  refine lv_aload_n hx hb dX4_addBird_0 rfl (lv_at hl 0 rfl) ?_
  refine lv_iload_n hx hb dX4_addBird_1 rfl (lv_at hl 1 rfl) ?_
  obtain ⟨z1, hz1, hF⟩ := bnd hF
  refine inR (runV C0 hlo hK hZ hW hS (kX4_springAt l lo g h _ a1  _ _ hz1) wCO_X4_springAt wML_X4_51 wIM_X4_springAt wSE_X4_X4_springAt wIN_X4 hdX4_springAt ⟨Nat.le_of_ble_eq_true rfl, Nat.le_of_ble_eq_true rfl⟩ (recvK hK hW (al0 h 0 (by decide)) (ct0 0) rfl) rfl hl.1 rfl (Nat.le_of_ble_eq_true rfl) dX4_addBird_2 ⟨Nat.le_of_ble_eq_true rfl, Nat.le_of_ble_eq_true rfl⟩) hS (fun H locs hW hS => ?_)
  refine nspl (fun nz1 => ?_) (fun iz1 nz1 => ?_)
  · rw [nz1, oc_n] at hF
    refine lv_astoreN (lv' := [(6, .null), (0, .ref (h.2.2 0 0)), (1, .int a1), (2, .int a2), (3, .int a3), (4, .int a4), (5, .int a5)]) hx hb dX4_addBird_5 hl (by decide) rfl (fun ls hl => ?_)
    refine lv_aloadN hx hb dX4_addBird_7 (lv_at hl 0 rfl) ?_
    refine lv_ifnonnullN hx hb dX4_addBird_9 ?_
    cases hF
  · rw [nz1, oc_s] at hF
    obtain ⟨hiz1, hF⟩ := grp hF
    refine lv_astore (lv' := [(6, .ref (h.2.2 5 iz1)), (0, .ref (h.2.2 0 0)), (1, .int a1), (2, .int a2), (3, .int a3), (4, .int a4), (5, .int a5)]) hx hb dX4_addBird_5 hl (by decide) rfl (fun ls hl => ?_)
    refine lv_aload hx hb dX4_addBird_7 (lv_at hl 0 rfl) ?_
    refine lv_ifnonnull (tgt := 22) hx hb dX4_addBird_9 (by decide) ?_
    refine lv_iload_n hx hb dX4_addBird_22 rfl (lv_at hl 3 rfl) ?_
    refine lv_iconst (v := 0) hx hb dX4_addBird_23 (by decide) ?_
    refine lv_bipush (v := 20) hx hb dX4_addBird_24 (by decide) ?_
    obtain ⟨z2, hz2, hF⟩ := bnd hF
    refine inI (runS C0 hlo hK hZ hW hS (kX4_isIn l lo g h _ a2 0 20  _ _ hz2) wCO_X4_isIn wML_X4_28 wST_X4_isIn wIN_X4 hdsX4_isIn ⟨Nat.le_of_ble_eq_true rfl, Nat.le_of_ble_eq_true rfl⟩ rfl hl.1 rfl (Nat.le_of_ble_eq_true rfl) dX4_addBird_26 ⟨Nat.le_of_ble_eq_true rfl, Nat.le_of_ble_eq_true rfl⟩) hS (fun H locs hW hS => ?_)
    refine lv_if_ne (tgt := 42) hx hb dX4_addBird_29 (by decide) (fun c3 => ?_) (fun c3 => ?_)
    · rw [if_neg c3] at hF
      refine lv_iload_n hx hb dX4_addBird_42 rfl (lv_at hl 4 rfl) ?_
      refine lv_bipush (v := 8) hx hb dX4_addBird_43 (by decide) ?_
      refine lv_bipush (v := 96) hx hb dX4_addBird_45 (by decide) ?_
      obtain ⟨z4, hz4, hF⟩ := bnd hF
      refine inI (runS C0 hlo hK hZ hW hS (kX4_isIn l lo g h _ a3 8 96  _ _ hz4) wCO_X4_isIn wML_X4_28 wST_X4_isIn wIN_X4 hdsX4_isIn ⟨Nat.le_of_ble_eq_true rfl, Nat.le_of_ble_eq_true rfl⟩ rfl hl.1 rfl (Nat.le_of_ble_eq_true rfl) dX4_addBird_47 ⟨Nat.le_of_ble_eq_true rfl, Nat.le_of_ble_eq_true rfl⟩) hS (fun H locs hW hS => ?_)
      refine lv_if_ne (tgt := 63) hx hb dX4_addBird_50 (by decide) (fun c5 => ?_) (fun c5 => ?_)
      · rw [if_neg c5] at hF
        refine lv_iload hx hb dX4_addBird_63 (lv_at hl 5 rfl) ?_
        refine lv_iconst (v := 1) hx hb dX4_addBird_65 (by decide) ?_
        refine lv_bipush (v := 12) hx hb dX4_addBird_66 (by decide) ?_
        obtain ⟨z6, hz6, hF⟩ := bnd hF
        refine inI (runS C0 hlo hK hZ hW hS (kX4_isIn l lo g h _ a4 1 12  _ _ hz6) wCO_X4_isIn wML_X4_28 wST_X4_isIn wIN_X4 hdsX4_isIn ⟨Nat.le_of_ble_eq_true rfl, Nat.le_of_ble_eq_true rfl⟩ rfl hl.1 rfl (Nat.le_of_ble_eq_true rfl) dX4_addBird_68 ⟨Nat.le_of_ble_eq_true rfl, Nat.le_of_ble_eq_true rfl⟩) hS (fun H locs hW hS => ?_)
        refine lv_if_eq (tgt := 85) hx hb dX4_addBird_71 (by decide) (fun c7 => ?_) (fun c7 => ?_)
        · rw [if_pos c7] at hF
          cases hF
        · rw [if_neg c7] at hF
          refine lv_iload hx hb dX4_addBird_74 (lv_at hl 6 rfl) ?_
          refine lv_iconst (v := 1) hx hb dX4_addBird_76 (by decide) ?_
          refine lv_bipush (v := 12) hx hb dX4_addBird_77 (by decide) ?_
          obtain ⟨z8, hz8, hF⟩ := bnd hF
          refine inI (runS C0 hlo hK hZ hW hS (kX4_isIn l lo g h _ a5 1 12  _ _ hz8) wCO_X4_isIn wML_X4_28 wST_X4_isIn wIN_X4 hdsX4_isIn ⟨Nat.le_of_ble_eq_true rfl, Nat.le_of_ble_eq_true rfl⟩ rfl hl.1 rfl (Nat.le_of_ble_eq_true rfl) dX4_addBird_79 ⟨Nat.le_of_ble_eq_true rfl, Nat.le_of_ble_eq_true rfl⟩) hS (fun H locs hW hS => ?_)
          refine lv_if_ne (tgt := 95) hx hb dX4_addBird_82 (by decide) (fun c9 => ?_) (fun c9 => ?_)
          · rw [if_neg c9] at hF
            refine lv_aload_n hx hb dX4_addBird_95 rfl (lv_at hl 1 rfl) ?_
            refine get0 C0 hK hW 0 (al0 h 0 (by decide)) 4 (by decide) wFL_X4_114 rfl rfl dX4_addBird_96 ?_
            refine lv_istore (lv' := [(7, .int (z8.2.1 0 0 4)), (6, .ref (h.2.2 5 iz1)), (0, .ref (h.2.2 0 0)), (1, .int a1), (2, .int a2), (3, .int a3), (4, .int a4), (5, .int a5)]) hx hb dX4_addBird_99 hl (by decide) rfl (fun ls hl => ?_)
            refine lv_iload hx hb dX4_addBird_101 (lv_at hl 0 rfl) ?_
            refine lv_if_lt (tgt := 116) hx hb dX4_addBird_103 (by decide) (fun c10 => ?_) (fun c10 => ?_)
            · rw [if_pos c10] at hF
              cases hF
            · rw [if_neg c10] at hF
              refine lv_iload hx hb dX4_addBird_106 (lv_at hl 0 rfl) ?_
              refine lv_aload_n hx hb dX4_addBird_108 rfl (lv_at hl 2 rfl) ?_
              refine get0 C0 hK hW 0 (al0 h 0 (by decide)) 1 (by decide) wFL_X4_17 rfl rfl dX4_addBird_109 ?_
              refine len2 C0 hK hW dX4_addBird_112 ?_
              refine lv_icmp_lt (tgt := 126) hx hb dX4_addBird_113 (by decide) (fun c11 => ?_) (fun c11 => ?_)
              · rw [if_pos c11] at hF
                refine lv_aload_n hx hb dX4_addBird_126 rfl (lv_at hl 2 rfl) ?_
                refine get0 C0 hK hW 0 (al0 h 0 (by decide)) 1 (by decide) wFL_X4_17 rfl rfl dX4_addBird_127 ?_
                refine lv_iload hx hb dX4_addBird_130 (lv_at hl 0 rfl) ?_
                obtain ⟨hg, hF⟩ := grd hF
                obtain ⟨hcnt, hF⟩ := grp hF
                refine newX (C := RX0) (T := TX0) (N := 15) (ci := 0) (ty := tyX0) (fs := [.int 0, .int 0, .int 0, .int 0, .int 0, .null, .null, .null, .int 0, .int 0, .long 0, .long 0, .int 0, .long 0, .int 0]) C0 hK hW.X hS (fun q hq => Nat.le_trans hlo hq) inX0_B tyX0_ok wCL_X4_15 wIS_X0 wIN_X0 rfl (fun j hj => by rcases (show j = 0 ∨ j = 1 ∨ j = 2 ∨ j = 3 ∨ j = 4 ∨ j = 5 ∨ j = 6 ∨ j = 7 ∨ j = 8 ∨ j = 9 ∨ j = 10 ∨ j = 11 ∨ j = 12 ∨ j = 13 ∨ j = 14 by omega) with rfl | rfl | rfl | rfl | rfl | rfl | rfl | rfl | rfl | rfl | rfl | rfl | rfl | rfl | rfl <;> rfl) (Nat.le_of_ble_eq_true rfl) (Nat.le_of_ble_eq_true rfl) dX4_addBird_132 (fun q H hX hS => ?_)
                refine lv_dup hx hb dX4_addBird_135 rfl ?_
                refine lv_iload_n hx hb dX4_addBird_136 rfl (lv_at hl 3 rfl) ?_
                refine lv_iload_n hx hb dX4_addBird_137 rfl (lv_at hl 4 rfl) ?_
                refine lv_iload_n hx hb dX4_addBird_138 rfl (lv_at hl 5 rfl) ?_
                refine lv_iload hx hb dX4_addBird_139 (lv_at hl 6 rfl) ?_
                refine lv_iload hx hb dX4_addBird_141 (lv_at hl 7 rfl) ?_
                refine lv_aload hx hb dX4_addBird_143 (lv_at hl 1 rfl) ?_
                refine get5 C0 hK hX.W iz1 (al5 hiz1) 2 (by decide) wFL_X4_93 rfl rfl dX4_addBird_145 ?_
                refine inC (w1 := fun u => wsB g q u a1 a2 a3 a4 a5 (z8.2.2 5 iz1 2)) (runC C0 hK hX (kX0_init l g q H.size a1 a2 a3 a4 a5 (z8.2.2 5 iz1 2)) rfl wCO_X0_init wML_X4_119 wIM_X0_init wIN_X0 hdiX0_init ⟨(Nat.le_of_ble_eq_true rfl), (Nat.le_of_ble_eq_true rfl)⟩ rfl hl.1 rfl (Nat.le_of_ble_eq_true rfl) dX4_addBird_148 ⟨(Nat.le_of_ble_eq_true rfl), (Nat.le_of_ble_eq_true rfl)⟩) hX hlo hS (fun u H locs hX hS => ?_)
                refine astX C0 hK hX hS 2 4 (al0 h 2 (by decide)) (ct2 0) rfl 0 rfl rfl hg dX4_addBird_151 (fun H locs hX hS => ?_)
                rw [hcnt] at hX
                have hW : FW g (shB h q u) (Ax lo) (sgB z8.2 h.2.1 a1 a2 a3 a4 a5 (z8.2.2 5 iz1 2)) H := addB hX
                refine lv_aload_n hx hb dX4_addBird_152 rfl (lv_at hl 2 rfl) ?_
                refine lv_dup hx hb dX4_addBird_153 rfl ?_
                refine get0 (h := (shB h q u)) C0 hK hW 0 (al0 _ 0 (by decide)) 4 (by decide) wFL_X4_114 rfl rfl dX4_addBird_154 ?_
                refine lv_iconst (v := 1) hx hb dX4_addBird_157 (by decide) ?_
                refine lv_iadd hx hb dX4_addBird_158 ?_
                refine put0_4 (h := (shB h q u)) C0 hK hW hS 0 (al0 _ 0 (by decide)) wFL_X4_114 dX4_addBird_159 (fun H locs hW hS => ?_)
                refine lv_iload hx hb dX4_addBird_162 (lv_at hl 0 rfl) ?_
                cases hF
                exact retIg (q, u) C0 hr hlk (fun t ht => by subst ht; exact hW) hS dX4_addBird_164
              · rw [if_neg c11] at hF
                cases hF
          · rw [if_pos c9] at hF
            cases hF
      · rw [if_pos c5] at hF
        cases hF
    · rw [if_pos c3] at hF
      cases hF
