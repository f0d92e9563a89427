theorem hdX5_note : yX5_note.cls = RX5 ∧ yX5_note.cls ≠ "java/lang/invoke/MethodHandle" ∧ yX5_note.cls ≠ "java/lang/invoke/VarHandle" ∧ (parseMethodDescriptor yX5_note.desc).map (fun d => d.parameters.length) = some 2 := by decide +kernel
def FX5_note (ns nb : Nat) (σ : Sg) (a1 : Int32) (a2 : Int32) : Option Sg :=
  (((FX5_get ns nb σ a1 0).bind fun z1 => if (((5 * z1.1) + 1) < 0 ∨ 20 ≤ ((5 * z1.1) + 1).toNatClampNeg) then none else (if (((5 * z1.1) + 1) < 0 ∨ 20 ≤ ((5 * z1.1) + 1).toNatClampNeg) then none else (if (((5 * z1.1) + 1) < 0 ∨ 20 ≤ ((5 * z1.1) + 1).toNatClampNeg) then none else ((FX5_get ns nb (sI z1.2 21 0 ((5 * z1.1) + 1).toNatClampNeg ((z1.2.1 21 0 ((5 * z1.1) + 1).toNatClampNeg) - (mnI 10 (z1.2.1 21 0 ((5 * z1.1) + 1).toNatClampNeg)))) a1 9).bind fun z2 => (FX5_set ns nb z2.2 a1 9 (z2.1 + 1)).bind fun z3 => if (z3.1 20 0 13) = 0 then (if ((sI z3 20 0 10 ((z3.1 20 0 10) + 1)).1 20 0 11) = 250 then (some (sI z3 20 0 10 ((z3.1 20 0 10) + 1))) else (((if (((6 * a1) + a2) < 0 ∨ 48 ≤ ((6 * a1) + a2).toNatClampNeg) then none else (if (¬ (4 * ((sI z3 20 0 10 ((z3.1 20 0 10) + 1)).1 20 0 11)) < 0 ∧ (4 * ((sI z3 20 0 10 ((z3.1 20 0 10) + 1)).1 20 0 11)).toNatClampNeg + (4 : Int32).toNatClampNeg ≤ aln 27) then (some (sI (sC (sI z3 20 0 10 ((z3.1 20 0 10) + 1)) 27 (va_cpy (upd (upd (upd (upd (fun _ => 0) (0 : Int32).toNatClampNeg ((sI z3 20 0 10 ((z3.1 20 0 10) + 1)).1 20 0 1)) (1 : Int32).toNatClampNeg a1) (2 : Int32).toNatClampNeg a2) (3 : Int32).toNatClampNeg ((sI z3 20 0 10 ((z3.1 20 0 10) + 1)).1 25 0 ((6 * a1) + a2).toNatClampNeg)) ((sI z3 20 0 10 ((z3.1 20 0 10) + 1)).1 27 0) (0 : Int32).toNatClampNeg (4 * ((sI z3 20 0 10 ((z3.1 20 0 10) + 1)).1 20 0 11)).toNatClampNeg (4 : Int32).toNatClampNeg)) 20 0 11 (((sC (sI z3 20 0 10 ((z3.1 20 0 10) + 1)) 27 (va_cpy (upd (upd (upd (upd (fun _ => 0) (0 : Int32).toNatClampNeg ((sI z3 20 0 10 ((z3.1 20 0 10) + 1)).1 20 0 1)) (1 : Int32).toNatClampNeg a1) (2 : Int32).toNatClampNeg a2) (3 : Int32).toNatClampNeg ((sI z3 20 0 10 ((z3.1 20 0 10) + 1)).1 25 0 ((6 * a1) + a2).toNatClampNeg)) ((sI z3 20 0 10 ((z3.1 20 0 10) + 1)).1 27 0) (0 : Int32).toNatClampNeg (4 * ((sI z3 20 0 10 ((z3.1 20 0 10) + 1)).1 20 0 11)).toNatClampNeg (4 : Int32).toNatClampNeg)).1 20 0 11) + 1))) else none)).bind fun r => if kN σ + 1 ≤ kN r then some r else none))) else (some z3))))).bind fun r => if kN σ ≤ kN r then some r else none)
set_option maxHeartbeats 4000000 in
set_option maxRecDepth 100000 in
theorem kX5_note (l : Launch) (lo : Nat) (g : Gx) (h : Sh) (σ : Sg) (a1 : Int32) (a2 : Int32)  (σ1 : Sg) (hF : FX5_note h.1 h.2.1 σ a1 a2 = some σ1) : MV l yX5_note (ws_ yX5_note cX5_note 5 none) 1 60 (kN σ1 - kN σ) (4 * (kN σ1 - kN σ)) lo g h [.ref (h.2.2 20 0), .int a1, .int a2] σ σ1 := by
  refine ofB (own := RX5) (by decide +kernel) rfl (fun p e s m below meth c C0 hr hlk hlo hK hZ hW hS ls hl => ?_) (Nat.le_of_ble_eq_true rfl)
  have hx := C0.1
  have hb := C0.2.1
  have hl : lv_has ls 5 [(0, .ref (h.2.2 20 0)), (1, .int a1), (2, .int a2)] := hl
  unfold FX5_note at hF
  obtain ⟨hF, hp7⟩ := pst hF
  have hq7 : kN σ ≤ kN σ1 := hp7
  clear hp7
  refine W.widen (k := kN σ - kN σ) (n := 4 * (kN σ - kN σ)) (by omega) (by omega) ?_
  refine lv_iconst (v := 5) hx hb dX5_note_0 (by decide) ?_
  refine lv_aload_n hx hb dX5_note_1 rfl (lv_at hl 0 rfl) ?_
  refine lv_iload_n hx hb dX5_note_2 rfl (lv_at hl 1 rfl) ?_
  refine lv_iconst (v := 0) hx hb dX5_note_3 (by decide) ?_
  obtain ⟨z1, hz1, hF⟩ := bnd hF
  refine inI (runV C0 hlo hK hZ hW hS (kX5_get l lo g h _ a1 0  _ _ hz1) wCO_X5_get wML_X5_77 wIM_X5_get wSE_X5_X5_get wIN_X5 hdX5_get ⟨Nat.le_of_ble_eq_true rfl, Nat.le_of_ble_eq_true rfl⟩ (recvK hK hW (al20 h 20 (by decide)) (ct20 0) rfl) rfl hl.1 rfl (Nat.le_of_ble_eq_true rfl) dX5_note_4 ⟨by show kN σ - kN σ + 0 ≤ (kN σ1) - (kN σ); omega, by show 4 * (kN σ - kN σ) + 0 ≤ 4 * ((kN σ1) - (kN σ)); omega⟩) hS (fun H locs hW hS => ?_)
  refine lv_imul hx hb dX5_note_7 ?_
  refine lv_iconst (v := 1) hx hb dX5_note_8 (by decide) ?_
  refine lv_iadd hx hb dX5_note_9 ?_
  refine lv_istore_n (lv' := [(3, .int ((5 * z1.1) + 1)), (0, .ref (h.2.2 20 0)), (1, .int a1), (2, .int a2)]) hx hb dX5_note_10 rfl hl (by decide) rfl (fun ls hl => ?_)
  refine lv_aload_n hx hb dX5_note_11 rfl (lv_at hl 1 rfl) ?_
  refine get20 C0 hK hW 0 (al20 h 20 (by decide)) 4 (by decide) wFL_X5_9 rfl rfl dX5_note_12 ?_
  refine lv_iload_n hx hb dX5_note_15 rfl (lv_at hl 0 rfl) ?_
  refine lv_dup2_11 hx hb dX5_note_16 rfl rfl ?_
  obtain ⟨hg, hF⟩ := grd hF
  refine ald C0 hK hW 21 0 (al20 h 21 (by decide)) (by decide) hg dX5_note_17 ?_
  refine lv_bipush (v := 10) hx hb dX5_note_18 (by decide) ?_
  refine lv_aload_n hx hb dX5_note_20 rfl (lv_at hl 1 rfl) ?_
  refine get20 C0 hK hW 0 (al20 h 20 (by decide)) 4 (by decide) wFL_X5_9 rfl rfl dX5_note_21 ?_
  refine lv_iload_n hx hb dX5_note_24 rfl (lv_at hl 0 rfl) ?_
  obtain ⟨hg, hF⟩ := grd hF
  refine ald C0 hK hW 21 0 (al20 h 21 (by decide)) (by decide) hg dX5_note_25 ?_
  refine r_min C0 hl.1 wML_X5_61 (Nat.le_of_ble_eq_true rfl) (Nat.le_of_ble_eq_true rfl) (by show kN σ - kN σ ≤ (kN σ1) - (kN σ); omega) (by show 4 * (kN σ - kN σ) ≤ 4 * ((kN σ1) - (kN σ)); omega) dX5_note_26 ?_
  refine lv_isub hx hb dX5_note_29 ?_
  obtain ⟨hg, hF⟩ := grd hF
  refine ast C0 hK hW hS 21 0 (al20 h 21 (by decide)) (by decide) hg dX5_note_30 (fun H locs hW hS => ?_)
  refine lv_aload_n hx hb dX5_note_31 rfl (lv_at hl 1 rfl) ?_
  refine lv_iload_n hx hb dX5_note_32 rfl (lv_at hl 2 rfl) ?_
  refine lv_bipush (v := 9) hx hb dX5_note_33 (by decide) ?_
  refine lv_aload_n hx hb dX5_note_35 rfl (lv_at hl 1 rfl) ?_
  refine lv_iload_n hx hb dX5_note_36 rfl (lv_at hl 2 rfl) ?_
  refine lv_bipush (v := 9) hx hb dX5_note_37 (by decide) ?_
  obtain ⟨z2, hz2, hF⟩ := bnd hF
  refine inI (runV C0 hlo hK hZ hW hS (kX5_get l lo g h _ a1 9  _ _ hz2) wCO_X5_get wML_X5_77 wIM_X5_get wSE_X5_X5_get wIN_X5 hdX5_get ⟨Nat.le_of_ble_eq_true rfl, Nat.le_of_ble_eq_true rfl⟩ (recvK hK hW (al20 h 20 (by decide)) (ct20 0) rfl) rfl hl.1 rfl (Nat.le_of_ble_eq_true rfl) dX5_note_39 ⟨by show kN σ - kN σ + 0 ≤ (kN σ1) - (kN σ); omega, by show 4 * (kN σ - kN σ) + 0 ≤ 4 * ((kN σ1) - (kN σ)); omega⟩) hS (fun H locs hW hS => ?_)
  refine lv_iconst (v := 1) hx hb dX5_note_42 (by decide) ?_
  refine lv_iadd hx hb dX5_note_43 ?_
  obtain ⟨z3, hz3, hF⟩ := bnd hF
  refine inV (runV C0 hlo hK hZ hW hS (kX5_set l lo g h _ a1 9 (z2.1 + 1)  _ hz3) wCO_X5_set wML_X5_99 wIM_X5_set wSE_X5_X5_set wIN_X5 hdX5_set ⟨Nat.le_of_ble_eq_true rfl, Nat.le_of_ble_eq_true rfl⟩ (recvK hK hW (al20 h 20 (by decide)) (ct20 0) rfl) rfl hl.1 rfl (Nat.le_of_ble_eq_true rfl) dX5_note_44 ⟨by show kN σ - kN σ + 0 ≤ (kN σ1) - (kN σ); omega, by show 4 * (kN σ - kN σ) + 0 ≤ 4 * ((kN σ1) - (kN σ)); omega⟩) hS (fun H locs hW hS => ?_)
  refine lv_aload_n hx hb dX5_note_47 rfl (lv_at hl 1 rfl) ?_
  refine get20 C0 hK hW 0 (al20 h 20 (by decide)) 13 (by decide) wFL_X5_112 rfl rfl dX5_note_48 ?_
  refine lv_if_eq (tgt := 55) hx hb dX5_note_51 (by decide) (fun c4 => ?_) (fun c4 => ?_)
  · rw [if_pos c4] at hF
    refine lv_aload_n hx hb dX5_note_55 rfl (lv_at hl 1 rfl) ?_
    refine lv_dup hx hb dX5_note_56 rfl ?_
    refine get20 C0 hK hW 0 (al20 h 20 (by decide)) 10 (by decide) wFL_X5_116 rfl rfl dX5_note_57 ?_
    refine lv_iconst (v := 1) hx hb dX5_note_60 (by decide) ?_
    refine lv_iadd hx hb dX5_note_61 ?_
    refine put20_10 C0 hK hW hS 0 (al20 h 20 (by decide)) wFL_X5_116 dX5_note_62 (fun H locs hW hS => ?_)
    refine lv_aload_n hx hb dX5_note_65 rfl (lv_at hl 1 rfl) ?_
    refine get20 C0 hK hW 0 (al20 h 20 (by decide)) 11 (by decide) wFL_X5_119 rfl rfl dX5_note_66 ?_
    refine lv_sipush (v := 250) hx hb dX5_note_69 (by decide) ?_
    refine lv_icmp_ne (tgt := 76) hx hb dX5_note_72 (by decide) (fun c5 => ?_) (fun c5 => ?_)
    · rw [if_neg c5] at hF
      refine lv_iconst (v := 4) hx hb dX5_note_76 (by decide) ?_
      obtain ⟨hF, hp6⟩ := pst hF
      have hq6 : kN σ + 1 ≤ kN σ1 := hp6
      clear hp6
      refine newT C0 hK hW hS (fun q hq => Nat.le_trans hlo hq) (N := 4) (by decide) (by decide) (by decide) (by show kN σ - kN σ + 1 ≤ kN σ1 - kN σ; omega) (by show 4 * (kN σ - kN σ) + 4 ≤ 4 * (kN σ1 - kN σ); omega) dX5_note_77 (fun qT H hT hS => ?_)
      have hW := hT.W
      refine lv_dup hx hb dX5_note_79 rfl ?_
      refine lv_iconst (v := 0) hx hb dX5_note_80 (by decide) ?_
      refine lv_aload_n hx hb dX5_note_81 rfl (lv_at hl 1 rfl) ?_
      refine get20 C0 hK hW 0 (al20 h 20 (by decide)) 1 (by decide) wFL_X5_122 rfl rfl dX5_note_82 ?_
      refine astT C0 hK hT hS (show vp_in 0 4 by unfold vp_in; decide) dX5_note_85 (fun H locs hT hS => ?_)
      have hW := hT.W
      refine lv_dup hx hb dX5_note_86 rfl ?_
      refine lv_iconst (v := 1) hx hb dX5_note_87 (by decide) ?_
      refine lv_iload_n hx hb dX5_note_88 rfl (lv_at hl 2 rfl) ?_
      refine astT C0 hK hT hS (show vp_in 1 4 by unfold vp_in; decide) dX5_note_89 (fun H locs hT hS => ?_)
      have hW := hT.W
      refine lv_dup hx hb dX5_note_90 rfl ?_
      refine lv_iconst (v := 2) hx hb dX5_note_91 (by decide) ?_
      refine lv_iload_n hx hb dX5_note_92 rfl (lv_at hl 3 rfl) ?_
      refine astT C0 hK hT hS (show vp_in 2 4 by unfold vp_in; decide) dX5_note_93 (fun H locs hT hS => ?_)
      have hW := hT.W
      refine lv_dup hx hb dX5_note_94 rfl ?_
      refine lv_iconst (v := 3) hx hb dX5_note_95 (by decide) ?_
      refine lv_aload_n hx hb dX5_note_96 rfl (lv_at hl 1 rfl) ?_
      refine get20 C0 hK hW 0 (al20 h 20 (by decide)) 8 (by decide) wFL_X5_23 rfl rfl dX5_note_97 ?_
      refine lv_bipush (v := 6) hx hb dX5_note_100 (by decide) ?_
      refine lv_iload_n hx hb dX5_note_102 rfl (lv_at hl 2 rfl) ?_
      refine lv_imul hx hb dX5_note_103 ?_
      refine lv_iload_n hx hb dX5_note_104 rfl (lv_at hl 3 rfl) ?_
      refine lv_iadd hx hb dX5_note_105 ?_
      obtain ⟨hg, hF⟩ := grd hF
      refine ald C0 hK hW 25 0 (al20 h 25 (by decide)) (by decide) hg dX5_note_106 ?_
      refine astT C0 hK hT hS (show vp_in 3 4 by unfold vp_in; decide) dX5_note_107 (fun H locs hT hS => ?_)
      have hW := hT.W
      refine lv_astore (lv' := [(4, .ref qT), (3, .int ((5 * z1.1) + 1)), (0, .ref (h.2.2 20 0)), (1, .int a1), (2, .int a2)]) hx hb dX5_note_108 hl (by decide) rfl (fun ls hl => ?_)
      refine lv_aload hx hb dX5_note_110 (lv_at hl 0 rfl) ?_
      refine lv_iconst (v := 0) hx hb dX5_note_112 (by decide) ?_
      refine lv_aload_n hx hb dX5_note_113 rfl (lv_at hl 2 rfl) ?_
      refine get20 C0 hK hW 0 (al20 h 20 (by decide)) 12 (by decide) wFL_X5_29 rfl rfl dX5_note_114 ?_
      refine lv_iconst (v := 4) hx hb dX5_note_117 (by decide) ?_
      refine lv_aload_n hx hb dX5_note_118 rfl (lv_at hl 2 rfl) ?_
      refine get20 C0 hK hW 0 (al20 h 20 (by decide)) 11 (by decide) wFL_X5_119 rfl rfl dX5_note_119 ?_
      refine lv_imul hx hb dX5_note_122 ?_
      refine lv_iconst (v := 4) hx hb dX5_note_123 (by decide) ?_
      obtain ⟨hg, hF⟩ := grp hF
      refine cpyT C0 hK hT hS hl.1 27 (al20 h 27 (by decide)) (by decide) wML_X5_90 (by decide) hg.1 (by decide) (by decide) hg.2 (Nat.le_of_ble_eq_true rfl) (Nat.le_of_ble_eq_true rfl) dX5_note_124 (fun H locs hW hS => ?_)
      refine lv_aload_n hx hb dX5_note_127 rfl (lv_at hl 2 rfl) ?_
      refine lv_dup hx hb dX5_note_128 rfl ?_
      refine get20 C0 hK hW 0 (al20 h 20 (by decide)) 11 (by decide) wFL_X5_119 rfl rfl dX5_note_129 ?_
      refine lv_iconst (v := 1) hx hb dX5_note_132 (by decide) ?_
      refine lv_iadd hx hb dX5_note_133 ?_
      refine put20_11 C0 hK hW hS 0 (al20 h 20 (by decide)) wFL_X5_119 dX5_note_134 (fun H locs hW hS => ?_)
      refine W.widen (k := kN σ1 - kN σ) (n := 4 * (kN σ1 - kN σ)) (by omega) (by omega) ?_
      cases hF
      exact retV C0 hr hlk hW hS dX5_note_137
    · rw [if_pos c5] at hF
      refine W.widen (k := kN σ1 - kN σ) (n := 4 * (kN σ1 - kN σ)) (by omega) (by omega) ?_
      cases hF
      exact retV C0 hr hlk hW hS dX5_note_75
  · rw [if_neg c4] at hF
    refine W.widen (k := kN σ1 - kN σ) (n := 4 * (kN σ1 - kN σ)) (by omega) (by omega) ?_
    cases hF
    exact retV C0 hr hlk hW hS dX5_note_54
theorem hdX5_turn : yX5_turn.cls = RX5 ∧ yX5_turn.cls ≠ "java/lang/invoke/MethodHandle" ∧ yX5_turn.cls ≠ "java/lang/invoke/VarHandle" ∧ (parseMethodDescriptor yX5_turn.desc).map (fun d => d.parameters.length) = some 1 := by decide +kernel
def LX5_turn_101 (ns nb : Nat) (v1 : Int32) (v2 : Int32) (v5 : Int32) (v6 : Int32) (v7 : Int32) : Nat → Int32 → Sg → Option (Sg)
  | 0, _, _ => none
  | n + 1, v8, σ => if 6 ≤ v8 then (some (σ)) else (if ((v7 >>> (v8 &&& 31)) &&& 1) = 1 then ((FX5_note ns nb σ v1 v8).bind fun z12 => if (kN σ ≤ kN σ ∧ kN σ ≤ kN z12) then (((((LX5_turn_101 ns nb v1 v2 v5 v6 v7 n (v8 + 1) z12).bind fun r => if kN z12 ≤ kN r then some r else none)).bind fun r => if kN z12 ≤ kN r then some r else none)) else none) else (((LX5_turn_101 ns nb v1 v2 v5 v6 v7 n (v8 + 1) σ).bind fun r => if kN σ ≤ kN r then some r else none)))
def LX5_turn_75 (ns nb : Nat) (v1 : Int32) (v2 : Int32) (v5 : Int32) : Nat → Int32 → Sg → Option (Sg)
  | 0, _, _ => none
  | n + 1, v6, σ => if v5 < v6 then (some (σ)) else (if v2 = 0 then none else (if (((96 * v1) + (v6 - v6 / v2 * v2)) < 0 ∨ 768 ≤ ((96 * v1) + (v6 - v6 / v2 * v2)).toNatClampNeg) then none else ((LX5_turn_101 ns nb v1 v2 v5 v6 (σ.1 24 0 ((96 * v1) + (v6 - v6 / v2 * v2)).toNatClampNeg) 4100 0 σ).bind fun z16 => if (kN σ ≤ kN σ ∧ kN σ ≤ kN z16) then (((((LX5_turn_75 ns nb v1 v2 v5 n (v6 + 1) z16).bind fun r => if kN z16 ≤ kN r then some r else none)).bind fun r => if kN z16 ≤ kN r then some r else none)) else none)))
def FX5_turn (ns nb : Nat) (σ : Sg) (a1 : Int32) : Option Sg :=
  (((FX5_get ns nb σ a1 2).bind fun z1 => (FX5_get ns nb z1.2 a1 0).bind fun z2 => (FX5_sp ns nb z2.2 z2.1 2).bind fun z3 => (FX5_get ns nb z3.2 a1 10).bind fun z4 => (FX5_get ns nb z4.2 a1 3).bind fun z5 => (FX5_get ns nb z5.2 a1 4).bind fun z6 => if (1000 * z6.1.toInt64) = 0 then none else ((FX5_get ns nb z6.2 a1 8).bind fun z7 => (LX5_turn_75 ns nb a1 z1.1 ((((((z3.1 - z4.1).toInt64) * z5.1.toInt64) * z1.1.toInt64) / (1000 * z6.1.toInt64)).toInt32) 4100 (mxI (z7.1 + 1) ((((((((z3.1 - z4.1).toInt64) * z5.1.toInt64) * z1.1.toInt64) / (1000 * z6.1.toInt64)).toInt32) - z1.1) + 1)) z7.2).bind fun z20 => if (kN σ ≤ kN z7.2 ∧ kN z7.2 ≤ kN z20) then ((((FX5_set ns nb z20 a1 8 ((((((z3.1 - z4.1).toInt64) * z5.1.toInt64) * z1.1.toInt64) / (1000 * z6.1.toInt64)).toInt32)).bind fun z21 => if z1.1 = 0 then none else ((FX5_set ns nb z21 a1 5 (((((((z3.1 - z4.1).toInt64) * z5.1.toInt64) * z1.1.toInt64) / (1000 * z6.1.toInt64)).toInt32) - ((((((z3.1 - z4.1).toInt64) * z5.1.toInt64) * z1.1.toInt64) / (1000 * z6.1.toInt64)).toInt32) / z1.1 * z1.1)).bind fun z22 => some z22)).bind fun r => if kN z20 ≤ kN r then some r else none)) else none)).bind fun r => if kN σ ≤ kN r then some r else none)
set_option maxHeartbeats 4000000 in
set_option maxRecDepth 100000 in
theorem lX5_turn_101 {p : Program} {l : Launch} {e : Env} {s : State} {m : MethodId} {args : Array Value} {below : List Frame} {meth : Method} {c : Code} {Q : State → Prop} {lo : Nat} {g : Gx} {h : Sh} {k0 kf : Nat} (C0 : CallFix p m c cX5_turn 9 s args wB RX5) (hlo : lo ≤ s.heap.size) (hK : KW g s) (hZ : ZW lo s s.heap) (v1 : Int32) (v2 : Int32) (v5 : Int32) (v6 : Int32) (v7 : Int32)  : ∀ (n : Nat) (v8 : Int32) (σ : Sg) (z : (Sg)) (hF : LX5_turn_101 h.1 h.2.1 v1 v2 v5 v6 v7 n v8 σ = some z) (hk0 : k0 ≤ kN σ) (hkz : kN σ ≤ kN z) (hkf : kN z ≤ kf) (H : Heap) (locs : List Loc) (ls : Array Slot) (hW : FW g h (Ax lo) σ H) (hS : va_S (Ax lo) s.heap H locs) (hl : lv_has ls 9 [(0, .ref (h.2.2 20 0)), (1, .int v1), (2, .int v2), (5, .int v5), (6, .int v6), (7, .int v7), (8, .int v8)]) (kk : ∀ (H : Heap) (locs : List Loc) (ls : Array Slot), FW g h (Ax lo) z H → va_S (Ax lo) s.heap H locs → lv_has ls 9 [(0, .ref (h.2.2 20 0)), (1, .int v1), (2, .int v2), (5, .int v5), (6, .int v6)] → W p l e { frames := 2, cells := kf - k0, slots := 4 * (kf - k0), locals := 84 } s m args below meth c H locs (kN z - k0) (4 * (kN z - k0)) Q (F0 m 132 ls [])), W p l e { frames := 2, cells := kf - k0, slots := 4 * (kf - k0), locals := 84 } s m args below meth c H locs (kN σ - k0) (4 * (kN σ - k0)) Q (F0 m 101 ls []) := by
  have hx := C0.1
  have hb := C0.2.1
  intro n
  induction n with
  | zero =>
    intro v8 σ z hF
    rw [LX5_turn_101] at hF
    cases hF
  | succ n ih =>
    intro v8 σ z hF hk0 hkz hkf H locs ls hW hS hl kk
    rw [LX5_turn_101] at hF
    refine lv_iload hx hb dX5_turn_101 (lv_at hl 6 rfl) ?_
    refine lv_bipush (v := 6) hx hb dX5_turn_103 (by decide) ?_
    refine lv_icmp_ge (tgt := 132) hx hb dX5_turn_105 (by decide) (fun c9 => ?_) (fun c9 => ?_)
    · rw [if_pos c9] at hF
      cases hF
      exact kk _ _ _ hW hS (lv_sub hl [0, 1, 2, 3, 4] rfl)
    · rw [if_neg c9] at hF
      refine lv_iload hx hb dX5_turn_108 (lv_at hl 5 rfl) ?_
      refine lv_iload hx hb dX5_turn_110 (lv_at hl 6 rfl) ?_
      refine lv_ishr hx hb dX5_turn_112 ?_
      refine lv_iconst (v := 1) hx hb dX5_turn_113 (by decide) ?_
      refine lv_iand hx hb dX5_turn_114 ?_
      refine lv_iconst (v := 1) hx hb dX5_turn_115 (by decide) ?_
      refine lv_icmp_ne (tgt := 126) hx hb dX5_turn_116 (by decide) (fun c10 => ?_) (fun c10 => ?_)
      · rw [if_neg c10] at hF
        refine lv_iinc (v := v8 + 1) (lv' := [(8, .int (v8 + 1)), (0, .ref (h.2.2 20 0)), (1, .int v1), (2, .int v2), (5, .int v5), (6, .int v6), (7, .int v7)]) hx hb dX5_turn_126 hl (k := 6) rfl rfl (by decide) rfl (fun ls hl => ?_)
        refine lv_goto (tgt := 101) hx hb dX5_turn_129 (by decide) ?_
        obtain ⟨hF, hp11⟩ := pst hF
        have hq11 : kN σ ≤ kN z := hp11
        clear hp11
        refine W.widen (k := kN σ - k0) (n := 4 * (kN σ - k0)) (by omega) (by omega) ?_
        exact ih (v8 + 1) σ z hF (by omega) (by omega) (by omega) _ _ _ hW hS (lv_sub hl [1, 2, 3, 4, 5, 6, 0] rfl) kk
      · rw [if_pos c10] at hF
        refine lv_aload_n hx hb dX5_turn_119 rfl (lv_at hl 0 rfl) ?_
        refine lv_iload_n hx hb dX5_turn_120 rfl (lv_at hl 1 rfl) ?_
        refine lv_iload hx hb dX5_turn_121 (lv_at hl 6 rfl) ?_
        obtain ⟨z12, hz12, hF⟩ := bnd hF
        obtain ⟨hg15, hF⟩ := grp hF
        obtain ⟨hF, hp14⟩ := pst hF
        have hq14 : kN z12 ≤ kN z := hp14
        clear hp14
        refine W.widen (k := kN σ - k0) (n := 4 * (kN σ - k0)) (by omega) (by omega) ?_
        refine inV (runV C0 hlo hK hZ hW hS (kX5_note l lo g h _ v1 v8  _ hz12) wCO_X5_note wML_X5_127 wIM_X5_note wSE_X5_X5_note wIN_X5 hdX5_note ⟨Nat.le_of_ble_eq_true rfl, Nat.le_of_ble_eq_true rfl⟩ (recvK hK hW (al20 h 20 (by decide)) (ct20 0) rfl) rfl hl.1 rfl (Nat.le_of_ble_eq_true rfl) dX5_turn_123 ⟨by show kN σ - k0 + (kN z12 - kN σ) ≤ kf - k0; omega, by show 4 * (kN σ - k0) + 4 * (kN z12 - kN σ) ≤ 4 * (kf - k0); omega⟩) hS (fun H locs hW hS => ?_)
        refine W.widen (k := kN z12 - k0) (n := 4 * (kN z12 - k0)) (by omega) (by omega) ?_
        refine lv_iinc (v := v8 + 1) (lv' := [(8, .int (v8 + 1)), (0, .ref (h.2.2 20 0)), (1, .int v1), (2, .int v2), (5, .int v5), (6, .int v6), (7, .int v7)]) hx hb dX5_turn_126 hl (k := 6) rfl rfl (by decide) rfl (fun ls hl => ?_)
        refine lv_goto (tgt := 101) hx hb dX5_turn_129 (by decide) ?_
        obtain ⟨hF, hp13⟩ := pst hF
        have hq13 : kN z12 ≤ kN z := hp13
        clear hp13
        refine W.widen (k := kN z12 - k0) (n := 4 * (kN z12 - k0)) (by omega) (by omega) ?_
        exact ih (v8 + 1) z12 z hF (by omega) (by omega) (by omega) _ _ _ hW hS (lv_sub hl [1, 2, 3, 4, 5, 6, 0] rfl) kk
set_option maxHeartbeats 4000000 in
set_option maxRecDepth 100000 in
theorem lX5_turn_75 {p : Program} {l : Launch} {e : Env} {s : State} {m : MethodId} {args : Array Value} {below : List Frame} {meth : Method} {c : Code} {Q : State → Prop} {lo : Nat} {g : Gx} {h : Sh} {k0 kf : Nat} (C0 : CallFix p m c cX5_turn 9 s args wB RX5) (hlo : lo ≤ s.heap.size) (hK : KW g s) (hZ : ZW lo s s.heap) (v1 : Int32) (v2 : Int32) (v5 : Int32)  : ∀ (n : Nat) (v6 : Int32) (σ : Sg) (z : (Sg)) (hF : LX5_turn_75 h.1 h.2.1 v1 v2 v5 n v6 σ = some z) (hk0 : k0 ≤ kN σ) (hkz : kN σ ≤ kN z) (hkf : kN z ≤ kf) (H : Heap) (locs : List Loc) (ls : Array Slot) (hW : FW g h (Ax lo) σ H) (hS : va_S (Ax lo) s.heap H locs) (hl : lv_has ls 9 [(0, .ref (h.2.2 20 0)), (1, .int v1), (2, .int v2), (5, .int v5), (6, .int v6)]) (kk : ∀ (H : Heap) (locs : List Loc) (ls : Array Slot), FW g h (Ax lo) z H → va_S (Ax lo) s.heap H locs → lv_has ls 9 [(0, .ref (h.2.2 20 0)), (1, .int v1), (2, .int v2), (5, .int v5)] → W p l e { frames := 2, cells := kf - k0, slots := 4 * (kf - k0), locals := 84 } s m args below meth c H locs (kN z - k0) (4 * (kN z - k0)) Q (F0 m 138 ls [])), W p l e { frames := 2, cells := kf - k0, slots := 4 * (kf - k0), locals := 84 } s m args below meth c H locs (kN σ - k0) (4 * (kN σ - k0)) Q (F0 m 75 ls []) := by
  have hx := C0.1
  have hb := C0.2.1
  intro n
  induction n with
  | zero =>
    intro v6 σ z hF
    rw [LX5_turn_75] at hF
    cases hF
  | succ n ih =>
    intro v6 σ z hF hk0 hkz hkf H locs ls hW hS hl kk
    rw [LX5_turn_75] at hF
    refine lv_iload hx hb dX5_turn_75 (lv_at hl 4 rfl) ?_
    refine lv_iload hx hb dX5_turn_77 (lv_at hl 3 rfl) ?_
    refine lv_icmp_gt (tgt := 138) hx hb dX5_turn_79 (by decide) (fun c8 => ?_) (fun c8 => ?_)
    · rw [if_pos c8] at hF
      cases hF
      exact kk _ _ _ hW hS (lv_sub hl [0, 1, 2, 3] rfl)
    · rw [if_neg c8] at hF
      refine lv_aload_n hx hb dX5_turn_82 rfl (lv_at hl 0 rfl) ?_
      refine get20 C0 hK hW 0 (al20 h 20 (by decide)) 7 (by decide) wFL_X5_20 rfl rfl dX5_turn_83 ?_
      refine lv_bipush (v := 96) hx hb dX5_turn_86 (by decide) ?_
      refine lv_iload_n hx hb dX5_turn_88 rfl (lv_at hl 1 rfl) ?_
      refine lv_imul hx hb dX5_turn_89 ?_
      refine lv_iload hx hb dX5_turn_90 (lv_at hl 4 rfl) ?_
      refine lv_iload_n hx hb dX5_turn_92 rfl (lv_at hl 2 rfl) ?_
      obtain ⟨hg, hF⟩ := grd hF
      refine lv_irem hx hb dX5_turn_93 hg ?_
      refine lv_iadd hx hb dX5_turn_94 ?_
      obtain ⟨hg, hF⟩ := grd hF
      refine ald C0 hK hW 24 0 (al20 h 24 (by decide)) (by decide) hg dX5_turn_95 ?_
      refine lv_istore (lv' := [(7, .int (σ.1 24 0 ((96 * v1) + (v6 - v6 / v2 * v2)).toNatClampNeg)), (0, .ref (h.2.2 20 0)), (1, .int v1), (2, .int v2), (5, .int v5), (6, .int v6)]) hx hb dX5_turn_96 hl (by decide) rfl (fun ls hl => ?_)
      refine lv_iconst (v := 0) hx hb dX5_turn_98 (by decide) ?_
      refine lv_istore (lv' := [(8, .int 0), (7, .int (σ.1 24 0 ((96 * v1) + (v6 - v6 / v2 * v2)).toNatClampNeg)), (0, .ref (h.2.2 20 0)), (1, .int v1), (2, .int v2), (5, .int v5), (6, .int v6)]) hx hb dX5_turn_99 hl (by decide) rfl (fun ls hl => ?_)
      obtain ⟨z16, hz16, hF⟩ := bnd hF
      obtain ⟨hg19, hF⟩ := grp hF
      obtain ⟨hF, hp18⟩ := pst hF
      have hq18 : kN z16 ≤ kN z := hp18
      clear hp18
      refine W.widen (k := kN σ - k0) (n := 4 * (kN σ - k0)) (by omega) (by omega) ?_
      refine lX5_turn_101 (k0 := k0) (kf := kf) C0 hlo hK hZ v1 v2 v5 v6 (σ.1 24 0 ((96 * v1) + (v6 - v6 / v2 * v2)).toNatClampNeg)  _ 0 _ z16 hz16 (by omega) (by omega) (by omega) _ _ _ hW hS (lv_sub hl [2, 3, 4, 5, 6, 1, 0] rfl) (fun H locs ls hW hS hl => ?_)
      refine lv_iinc (v := v6 + 1) (lv' := [(6, .int (v6 + 1)), (0, .ref (h.2.2 20 0)), (1, .int v1), (2, .int v2), (5, .int v5)]) hx hb dX5_turn_132 hl (k := 4) rfl rfl (by decide) rfl (fun ls hl => ?_)
      refine lv_goto (tgt := 75) hx hb dX5_turn_135 (by decide) ?_
      obtain ⟨hF, hp17⟩ := pst hF
      have hq17 : kN z16 ≤ kN z := hp17
      clear hp17
      refine W.widen (k := kN z16 - k0) (n := 4 * (kN z16 - k0)) (by omega) (by omega) ?_
      exact ih (v6 + 1) z16 z hF (by omega) (by omega) (by omega) _ _ _ hW hS (lv_sub hl [1, 2, 3, 4, 0] rfl) kk
set_option maxHeartbeats 4000000 in
set_option maxRecDepth 100000 in
theorem kX5_turn (l : Launch) (lo : Nat) (g : Gx) (h : Sh) (σ : Sg) (a1 : Int32)  (σ1 : Sg) (hF : FX5_turn h.1 h.2.1 σ a1 = some σ1) : MV l yX5_turn (ws_ yX5_turn cX5_turn 9 none) 2 84 (kN σ1 - kN σ) (4 * (kN σ1 - kN σ)) lo g h [.ref (h.2.2 20 0), .int a1] σ σ1 := by
  refine ofB (own := RX5) (by decide +kernel) rfl (fun p e s m below meth c C0 hr hlk hlo hK hZ hW hS ls hl => ?_) (Nat.le_of_ble_eq_true rfl)
  have hx := C0.1
  have hb := C0.2.1
  have hl : lv_has ls 9 [(0, .ref (h.2.2 20 0)), (1, .int a1)] := hl
  unfold FX5_turn at hF
  obtain ⟨hF, hp25⟩ := pst hF
  have hq25 : kN σ ≤ kN σ1 := hp25
  clear hp25
  refine W.widen (k := kN σ - kN σ) (n := 4 * (kN σ - kN σ)) (by omega) (by omega) ?_
  refine lv_aload_n hx hb dX5_turn_0 rfl (lv_at hl 0 rfl) ?_
  refine lv_iload_n hx hb dX5_turn_1 rfl (lv_at hl 1 rfl) ?_
  refine lv_iconst (v := 2) hx hb dX5_turn_2 (by decide) ?_
  obtain ⟨z1, hz1, hF⟩ := bnd hF
  refine inI (runV C0 hlo hK hZ hW hS (kX5_get l lo g h _ a1 2  _ _ hz1) wCO_X5_get wML_X5_77 wIM_X5_get wSE_X5_X5_get wIN_X5 hdX5_get ⟨Nat.le_of_ble_eq_true rfl, Nat.le_of_ble_eq_true rfl⟩ (recvK hK hW (al20 h 20 (by decide)) (ct20 0) rfl) rfl hl.1 rfl (Nat.le_of_ble_eq_true rfl) dX5_turn_3 ⟨by show kN σ - kN σ + 0 ≤ (kN σ1) - (kN σ); omega, by show 4 * (kN σ - kN σ) + 0 ≤ 4 * ((kN σ1) - (kN σ)); omega⟩) hS (fun H locs hW hS => ?_)
  refine lv_istore_n (lv' := [(2, .int z1.1), (0, .ref (h.2.2 20 0)), (1, .int a1)]) hx hb dX5_turn_6 rfl hl (by decide) rfl (fun ls hl => ?_)
  refine lv_aload_n hx hb dX5_turn_7 rfl (lv_at hl 1 rfl) ?_
  refine lv_aload_n hx hb dX5_turn_8 rfl (lv_at hl 1 rfl) ?_
  refine lv_iload_n hx hb dX5_turn_9 rfl (lv_at hl 2 rfl) ?_
  refine lv_iconst (v := 0) hx hb dX5_turn_10 (by decide) ?_
  obtain ⟨z2, hz2, hF⟩ := bnd hF
  refine inI (runV C0 hlo hK hZ hW hS (kX5_get l lo g h _ a1 0  _ _ hz2) wCO_X5_get wML_X5_77 wIM_X5_get wSE_X5_X5_get wIN_X5 hdX5_get ⟨Nat.le_of_ble_eq_true rfl, Nat.le_of_ble_eq_true rfl⟩ (recvK hK hW (al20 h 20 (by decide)) (ct20 0) rfl) rfl hl.1 rfl (Nat.le_of_ble_eq_true rfl) dX5_turn_11 ⟨by show kN σ - kN σ + 0 ≤ (kN σ1) - (kN σ); omega, by show 4 * (kN σ - kN σ) + 0 ≤ 4 * ((kN σ1) - (kN σ)); omega⟩) hS (fun H locs hW hS => ?_)
  refine lv_iconst (v := 2) hx hb dX5_turn_14 (by decide) ?_
  obtain ⟨z3, hz3, hF⟩ := bnd hF
  refine inI (runV C0 hlo hK hZ hW hS (kX5_sp l lo g h _ z2.1 2  _ _ hz3) wCO_X5_sp wML_X5_67 wIM_X5_sp wSE_X5_X5_sp wIN_X5 hdX5_sp ⟨Nat.le_of_ble_eq_true rfl, Nat.le_of_ble_eq_true rfl⟩ (recvK hK hW (al20 h 20 (by decide)) (ct20 0) rfl) rfl hl.1 rfl (Nat.le_of_ble_eq_true rfl) dX5_turn_15 ⟨by show kN σ - kN σ + 0 ≤ (kN σ1) - (kN σ); omega, by show 4 * (kN σ - kN σ) + 0 ≤ 4 * ((kN σ1) - (kN σ)); omega⟩) hS (fun H locs hW hS => ?_)
  refine lv_aload_n hx hb dX5_turn_18 rfl (lv_at hl 1 rfl) ?_
  refine lv_iload_n hx hb dX5_turn_19 rfl (lv_at hl 2 rfl) ?_
  refine lv_bipush (v := 10) hx hb dX5_turn_20 (by decide) ?_
  obtain ⟨z4, hz4, hF⟩ := bnd hF
  refine inI (runV C0 hlo hK hZ hW hS (kX5_get l lo g h _ a1 10  _ _ hz4) wCO_X5_get wML_X5_77 wIM_X5_get wSE_X5_X5_get wIN_X5 hdX5_get ⟨Nat.le_of_ble_eq_true rfl, Nat.le_of_ble_eq_true rfl⟩ (recvK hK hW (al20 h 20 (by decide)) (ct20 0) rfl) rfl hl.1 rfl (Nat.le_of_ble_eq_true rfl) dX5_turn_22 ⟨by show kN σ - kN σ + 0 ≤ (kN σ1) - (kN σ); omega, by show 4 * (kN σ - kN σ) + 0 ≤ 4 * ((kN σ1) - (kN σ)); omega⟩) hS (fun H locs hW hS => ?_)
  refine lv_isub hx hb dX5_turn_25 ?_
  refine lv_i2l hx hb dX5_turn_26 rfl ?_
  refine lv_lstore_n (lv' := [(3, .long ((z3.1 - z4.1).toInt64)), (2, .int z1.1), (0, .ref (h.2.2 20 0)), (1, .int a1)]) hx hb dX5_turn_27 rfl hl (by decide) rfl (fun ls hl => ?_)
  refine lv_lload_n hx hb dX5_turn_28 rfl (lv_at hl 0 rfl) ?_
  refine lv_aload_n hx hb dX5_turn_29 rfl (lv_at hl 2 rfl) ?_
  refine lv_iload_n hx hb dX5_turn_30 rfl (lv_at hl 3 rfl) ?_
  refine lv_iconst (v := 3) hx hb dX5_turn_31 (by decide) ?_
  obtain ⟨z5, hz5, hF⟩ := bnd hF
  refine inI (runV C0 hlo hK hZ hW hS (kX5_get l lo g h _ a1 3  _ _ hz5) wCO_X5_get wML_X5_77 wIM_X5_get wSE_X5_X5_get wIN_X5 hdX5_get ⟨Nat.le_of_ble_eq_true rfl, Nat.le_of_ble_eq_true rfl⟩ (recvK hK hW (al20 h 20 (by decide)) (ct20 0) rfl) rfl hl.1 rfl (Nat.le_of_ble_eq_true rfl) dX5_turn_32 ⟨by show kN σ - kN σ + 0 ≤ (kN σ1) - (kN σ); omega, by show 4 * (kN σ - kN σ) + 0 ≤ 4 * ((kN σ1) - (kN σ)); omega⟩) hS (fun H locs hW hS => ?_)
  refine lv_i2l hx hb dX5_turn_35 rfl ?_
  refine lv_lmul hx hb dX5_turn_36 ?_
  refine lv_iload_n hx hb dX5_turn_37 rfl (lv_at hl 1 rfl) ?_
  refine lv_i2l hx hb dX5_turn_38 rfl ?_
  refine lv_lmul hx hb dX5_turn_39 ?_
  refine lv_ldc2 hx hb C0.2.2.2.1 (C0.2.2.2.2 _ wconstantLong_X5_125) dX5_turn_40 ?_
  refine lv_aload_n hx hb dX5_turn_43 rfl (lv_at hl 2 rfl) ?_
  refine lv_iload_n hx hb dX5_turn_44 rfl (lv_at hl 3 rfl) ?_
  refine lv_iconst (v := 4) hx hb dX5_turn_45 (by decide) ?_
  obtain ⟨z6, hz6, hF⟩ := bnd hF
  refine inI (runV C0 hlo hK hZ hW hS (kX5_get l lo g h _ a1 4  _ _ hz6) wCO_X5_get wML_X5_77 wIM_X5_get wSE_X5_X5_get wIN_X5 hdX5_get ⟨Nat.le_of_ble_eq_true rfl, Nat.le_of_ble_eq_true rfl⟩ (recvK hK hW (al20 h 20 (by decide)) (ct20 0) rfl) rfl hl.1 rfl (Nat.le_of_ble_eq_true rfl) dX5_turn_46 ⟨by show kN σ - kN σ + 0 ≤ (kN σ1) - (kN σ); omega, by show 4 * (kN σ - kN σ) + 0 ≤ 4 * ((kN σ1) - (kN σ)); omega⟩) hS (fun H locs hW hS => ?_)
  refine lv_i2l hx hb dX5_turn_49 rfl ?_
  refine lv_lmul hx hb dX5_turn_50 ?_
  obtain ⟨hg, hF⟩ := grd hF
  refine lv_ldiv hx hb dX5_turn_51 hg ?_
  refine lv_l2i hx hb dX5_turn_52 rfl ?_
  refine lv_istore (lv' := [(5, .int ((((((z3.1 - z4.1).toInt64) * z5.1.toInt64) * z1.1.toInt64) / (1000 * z6.1.toInt64)).toInt32)), (3, .long ((z3.1 - z4.1).toInt64)), (2, .int z1.1), (0, .ref (h.2.2 20 0)), (1, .int a1)]) hx hb dX5_turn_53 hl (by decide) rfl (fun ls hl => ?_)
  refine lv_aload_n hx hb dX5_turn_55 rfl (lv_at hl 3 rfl) ?_
  refine lv_iload_n hx hb dX5_turn_56 rfl (lv_at hl 4 rfl) ?_
  refine lv_bipush (v := 8) hx hb dX5_turn_57 (by decide) ?_
  obtain ⟨z7, hz7, hF⟩ := bnd hF
  refine inI (runV C0 hlo hK hZ hW hS (kX5_get l lo g h _ a1 8  _ _ hz7) wCO_X5_get wML_X5_77 wIM_X5_get wSE_X5_X5_get wIN_X5 hdX5_get ⟨Nat.le_of_ble_eq_true rfl, Nat.le_of_ble_eq_true rfl⟩ (recvK hK hW (al20 h 20 (by decide)) (ct20 0) rfl) rfl hl.1 rfl (Nat.le_of_ble_eq_true rfl) dX5_turn_59 ⟨by show kN σ - kN σ + 0 ≤ (kN σ1) - (kN σ); omega, by show 4 * (kN σ - kN σ) + 0 ≤ 4 * ((kN σ1) - (kN σ)); omega⟩) hS (fun H locs hW hS => ?_)
  refine lv_iconst (v := 1) hx hb dX5_turn_62 (by decide) ?_
  refine lv_iadd hx hb dX5_turn_63 ?_
  refine lv_iload hx hb dX5_turn_64 (lv_at hl 0 rfl) ?_
  refine lv_iload_n hx hb dX5_turn_66 rfl (lv_at hl 2 rfl) ?_
  refine lv_isub hx hb dX5_turn_67 ?_
  refine lv_iconst (v := 1) hx hb dX5_turn_68 (by decide) ?_
  refine lv_iadd hx hb dX5_turn_69 ?_
  refine r_max C0 hl.1 wML_X5_70 (Nat.le_of_ble_eq_true rfl) (Nat.le_of_ble_eq_true rfl) (by show kN σ - kN σ ≤ (kN σ1) - (kN σ); omega) (by show 4 * (kN σ - kN σ) ≤ 4 * ((kN σ1) - (kN σ)); omega) dX5_turn_70 ?_
  refine lv_istore (lv' := [(6, .int (mxI (z7.1 + 1) ((((((((z3.1 - z4.1).toInt64) * z5.1.toInt64) * z1.1.toInt64) / (1000 * z6.1.toInt64)).toInt32) - z1.1) + 1))), (5, .int ((((((z3.1 - z4.1).toInt64) * z5.1.toInt64) * z1.1.toInt64) / (1000 * z6.1.toInt64)).toInt32)), (3, .long ((z3.1 - z4.1).toInt64)), (2, .int z1.1), (0, .ref (h.2.2 20 0)), (1, .int a1)]) hx hb dX5_turn_73 hl (by decide) rfl (fun ls hl => ?_)
  obtain ⟨z20, hz20, hF⟩ := bnd hF
  obtain ⟨hg24, hF⟩ := grp hF
  obtain ⟨hF, hp23⟩ := pst hF
  have hq23 : kN z20 ≤ kN σ1 := hp23
  clear hp23
  refine W.widen (k := kN z7.2 - (kN σ)) (n := 4 * (kN z7.2 - (kN σ))) (by omega) (by omega) ?_
  refine lX5_turn_75 (k0 := (kN σ)) (kf := (kN σ1)) C0 hlo hK hZ a1 z1.1 ((((((z3.1 - z4.1).toInt64) * z5.1.toInt64) * z1.1.toInt64) / (1000 * z6.1.toInt64)).toInt32)  _ (mxI (z7.1 + 1) ((((((((z3.1 - z4.1).toInt64) * z5.1.toInt64) * z1.1.toInt64) / (1000 * z6.1.toInt64)).toInt32) - z1.1) + 1)) _ z20 hz20 (by omega) (by omega) (by omega) _ _ _ hW hS (lv_sub hl [4, 5, 3, 1, 0] rfl) (fun H locs ls hW hS hl => ?_)
  refine lv_aload_n hx hb dX5_turn_138 rfl (lv_at hl 0 rfl) ?_
  refine lv_iload_n hx hb dX5_turn_139 rfl (lv_at hl 1 rfl) ?_
  refine lv_bipush (v := 8) hx hb dX5_turn_140 (by decide) ?_
  refine lv_iload hx hb dX5_turn_142 (lv_at hl 3 rfl) ?_
  obtain ⟨z21, hz21, hF⟩ := bnd hF
  refine inV (runV C0 hlo hK hZ hW hS (kX5_set l lo g h _ a1 8 ((((((z3.1 - z4.1).toInt64) * z5.1.toInt64) * z1.1.toInt64) / (1000 * z6.1.toInt64)).toInt32)  _ hz21) wCO_X5_set wML_X5_99 wIM_X5_set wSE_X5_X5_set wIN_X5 hdX5_set ⟨Nat.le_of_ble_eq_true rfl, Nat.le_of_ble_eq_true rfl⟩ (recvK hK hW (al20 h 20 (by decide)) (ct20 0) rfl) rfl hl.1 rfl (Nat.le_of_ble_eq_true rfl) dX5_turn_144 ⟨by show kN z20 - (kN σ) + 0 ≤ (kN σ1) - (kN σ); omega, by show 4 * (kN z20 - (kN σ)) + 0 ≤ 4 * ((kN σ1) - (kN σ)); omega⟩) hS (fun H locs hW hS => ?_)
  refine lv_aload_n hx hb dX5_turn_147 rfl (lv_at hl 0 rfl) ?_
  refine lv_iload_n hx hb dX5_turn_148 rfl (lv_at hl 1 rfl) ?_
  refine lv_iconst (v := 5) hx hb dX5_turn_149 (by decide) ?_
  refine lv_iload hx hb dX5_turn_150 (lv_at hl 3 rfl) ?_
  refine lv_iload_n hx hb dX5_turn_152 rfl (lv_at hl 2 rfl) ?_
  obtain ⟨hg, hF⟩ := grd hF
  refine lv_irem hx hb dX5_turn_153 hg ?_
  obtain ⟨z22, hz22, hF⟩ := bnd hF
  refine inV (runV C0 hlo hK hZ hW hS (kX5_set l lo g h _ a1 5 (((((((z3.1 - z4.1).toInt64) * z5.1.toInt64) * z1.1.toInt64) / (1000 * z6.1.toInt64)).toInt32) - ((((((z3.1 - z4.1).toInt64) * z5.1.toInt64) * z1.1.toInt64) / (1000 * z6.1.toInt64)).toInt32) / z1.1 * z1.1)  _ hz22) wCO_X5_set wML_X5_99 wIM_X5_set wSE_X5_X5_set wIN_X5 hdX5_set ⟨Nat.le_of_ble_eq_true rfl, Nat.le_of_ble_eq_true rfl⟩ (recvK hK hW (al20 h 20 (by decide)) (ct20 0) rfl) rfl hl.1 rfl (Nat.le_of_ble_eq_true rfl) dX5_turn_154 ⟨by show kN z20 - (kN σ) + 0 ≤ (kN σ1) - (kN σ); omega, by show 4 * (kN z20 - (kN σ)) + 0 ≤ 4 * ((kN σ1) - (kN σ)); omega⟩) hS (fun H locs hW hS => ?_)
  refine W.widen (k := kN σ1 - kN σ) (n := 4 * (kN σ1 - kN σ)) (by omega) (by omega) ?_
  cases hF
  exact retV C0 hr hlk hW hS dX5_turn_157
theorem hdX5_oneTick : yX5_oneTick.cls = RX5 ∧ yX5_oneTick.cls ≠ "java/lang/invoke/MethodHandle" ∧ yX5_oneTick.cls ≠ "java/lang/invoke/VarHandle" ∧ (parseMethodDescriptor yX5_oneTick.desc).map (fun d => d.parameters.length) = some 0 := by decide +kernel
def LX5_oneTick_24 (ns nb : Nat) (v1 : Int32) : Nat → Int32 → Sg → Option (Sg)
  | 0, _, _ => none
  | n + 1, v2, σ => if (σ.1 20 0 2) ≤ v2 then (some (σ)) else (if (((4 * v1) + v2) < 0 ∨ 16 ≤ ((4 * v1) + v2).toNatClampNeg) then none else (if (σ.1 23 0 ((4 * v1) + v2).toNatClampNeg) = 0 then (((LX5_oneTick_24 ns nb v1 n (v2 + 1) σ).bind fun r => if kN σ ≤ kN r then some r else none)) else ((FX5_sp ns nb σ v1 1).bind fun z4 => (FX5_sp ns nb z4.2 v2 1).bind fun z5 => if (((5 * v1) + 1) < 0 ∨ 20 ≤ ((5 * v1) + 1).toNatClampNeg) then none else (if (((5 * v1) + 1) < 0 ∨ 20 ≤ ((5 * v1) + 1).toNatClampNeg) then none else (if (((5 * v2) + 1) < 0 ∨ 20 ≤ ((5 * v2) + 1).toNatClampNeg) then none else (if (((5 * v2) + 1) < 0 ∨ 20 ≤ ((5 * v2) + 1).toNatClampNeg) then none else (if (kN σ ≤ kN (sI (sI z5.2 21 0 ((5 * v1) + 1).toNatClampNeg ((z5.2.1 21 0 ((5 * v1) + 1).toNatClampNeg) - ((z4.1 - z5.1) / 10))) 21 0 ((5 * v2) + 1).toNatClampNeg (((sI z5.2 21 0 ((5 * v1) + 1).toNatClampNeg ((z5.2.1 21 0 ((5 * v1) + 1).toNatClampNeg) - ((z4.1 - z5.1) / 10))).1 21 0 ((5 * v2) + 1).toNatClampNeg) + ((z4.1 - z5.1) / 10)))) then (((LX5_oneTick_24 ns nb v1 n (v2 + 1) (sI (sI z5.2 21 0 ((5 * v1) + 1).toNatClampNeg ((z5.2.1 21 0 ((5 * v1) + 1).toNatClampNeg) - ((z4.1 - z5.1) / 10))) 21 0 ((5 * v2) + 1).toNatClampNeg (((sI z5.2 21 0 ((5 * v1) + 1).toNatClampNeg ((z5.2.1 21 0 ((5 * v1) + 1).toNatClampNeg) - ((z4.1 - z5.1) / 10))).1 21 0 ((5 * v2) + 1).toNatClampNeg) + ((z4.1 - z5.1) / 10)))).bind fun r => if kN (sI (sI z5.2 21 0 ((5 * v1) + 1).toNatClampNeg ((z5.2.1 21 0 ((5 * v1) + 1).toNatClampNeg) - ((z4.1 - z5.1) / 10))) 21 0 ((5 * v2) + 1).toNatClampNeg (((sI z5.2 21 0 ((5 * v1) + 1).toNatClampNeg ((z5.2.1 21 0 ((5 * v1) + 1).toNatClampNeg) - ((z4.1 - z5.1) / 10))).1 21 0 ((5 * v2) + 1).toNatClampNeg) + ((z4.1 - z5.1) / 10))) ≤ kN r then some r else none)) else none)))))))
def LX5_oneTick_12 (ns nb : Nat) : Nat → Int32 → Sg → Option (Sg)
  | 0, _, _ => none
  | n + 1, v1, σ => if (σ.1 20 0 2) ≤ v1 then (some (σ)) else ((LX5_oneTick_24 ns nb v1 4100 (v1 + 1) σ).bind fun z9 => if (kN σ ≤ kN σ ∧ kN σ ≤ kN z9) then (((((LX5_oneTick_12 ns nb  n (v1 + 1) z9).bind fun r => if kN z9 ≤ kN r then some r else none)).bind fun r => if kN z9 ≤ kN r then some r else none)) else none)
def LX5_oneTick_222 (ns nb : Nat) (v1 : Int32) : Nat → Int32 → Sg → Option (Sg)
  | 0, _, _ => none
  | n + 1, v4, σ => if (σ.1 20 0 3) ≤ v4 then (some (σ)) else ((FX5_get ns nb σ v4 0).bind fun z20 => if z20.1 = v1 then ((FX5_get ns nb z20.2 v4 6).bind fun z24 => if z24.1 = 1 then ((FX5_turn ns nb z24.2 v4).bind fun z28 => if (kN σ ≤ kN z24.2 ∧ kN z24.2 ≤ kN z28) then (((((LX5_oneTick_222 ns nb v1 n (v4 + 1) z28).bind fun r => if kN z28 ≤ kN r then some r else none)).bind fun r => if kN z28 ≤ kN r then some r else none)) else none) else (if (kN σ ≤ kN z24.2) then (((LX5_oneTick_222 ns nb v1 n (v4 + 1) z24.2).bind fun r => if kN z24.2 ≤ kN r then some r else none)) else none)) else (if (kN σ ≤ kN z20.2) then (((LX5_oneTick_222 ns nb v1 n (v4 + 1) z20.2).bind fun r => if kN z20.2 ≤ kN r then some r else none)) else none))
def LX5_oneTick_107 (ns nb : Nat) : Nat → Int32 → Sg → Option (Sg)
  | 0, _, _ => none
  | n + 1, v1, σ => if (σ.1 20 0 2) ≤ v1 then (some (σ)) else ((FX5_sp ns nb σ v1 1).bind fun z15 => (FX5_sp ns nb z15.2 v1 4).bind fun z16 => if z16.1 = 1 then (if (((5 * v1) + 3) < 0 ∨ 20 ≤ ((5 * v1) + 3).toNatClampNeg) then none else (if (kN σ ≤ kN (sI z16.2 21 0 ((5 * v1) + 3).toNatClampNeg 0)) then (((LX5_oneTick_107 ns nb  n (v1 + 1) (sI z16.2 21 0 ((5 * v1) + 3).toNatClampNeg 0)).bind fun r => if kN (sI z16.2 21 0 ((5 * v1) + 3).toNatClampNeg 0) ≤ kN r then some r else none)) else none)) else (if z15.1 = 0 then (if (((5 * v1) + 3) < 0 ∨ 20 ≤ ((5 * v1) + 3).toNatClampNeg) then none else (if (kN σ ≤ kN (sI z16.2 21 0 ((5 * v1) + 3).toNatClampNeg 0)) then (((LX5_oneTick_107 ns nb  n (v1 + 1) (sI z16.2 21 0 ((5 * v1) + 3).toNatClampNeg 0)).bind fun r => if kN (sI z16.2 21 0 ((5 * v1) + 3).toNatClampNeg 0) ≤ kN r then some r else none)) else none)) else ((FX5_sp ns nb z16.2 v1 0).bind fun z39 => (FX5_load ns nb z39.2 v1).bind fun z40 => if (200 * z40.1) = 0 then none else (if (((5 * v1) + 3) < 0 ∨ 20 ≤ ((5 * v1) + 3).toNatClampNeg) then none else (if (mnI z15.1 (mxI 1 (mnI 400 ((z39.1 * z15.1) / (200 * z40.1))))) = 0 then (if (kN σ ≤ kN (sI z40.2 21 0 ((5 * v1) + 3).toNatClampNeg (mnI z15.1 (mxI 1 (mnI 400 ((z39.1 * z15.1) / (200 * z40.1))))))) then (((LX5_oneTick_107 ns nb  n (v1 + 1) (sI z40.2 21 0 ((5 * v1) + 3).toNatClampNeg (mnI z15.1 (mxI 1 (mnI 400 ((z39.1 * z15.1) / (200 * z40.1))))))).bind fun r => if kN (sI z40.2 21 0 ((5 * v1) + 3).toNatClampNeg (mnI z15.1 (mxI 1 (mnI 400 ((z39.1 * z15.1) / (200 * z40.1)))))) ≤ kN r then some r else none)) else none) else (if (((5 * v1) + 1) < 0 ∨ 20 ≤ ((5 * v1) + 1).toNatClampNeg) then none else (if (((5 * v1) + 1) < 0 ∨ 20 ≤ ((5 * v1) + 1).toNatClampNeg) then none else (if (((5 * v1) + 2) < 0 ∨ 20 ≤ ((5 * v1) + 2).toNatClampNeg) then none else (if (((5 * v1) + 2) < 0 ∨ 20 ≤ ((5 * v1) + 2).toNatClampNeg) then none else ((LX5_oneTick_222 ns nb v1 4100 0 (sI (sI (sI z40.2 21 0 ((5 * v1) + 3).toNatClampNeg (mnI z15.1 (mxI 1 (mnI 400 ((z39.1 * z15.1) / (200 * z40.1)))))) 21 0 ((5 * v1) + 1).toNatClampNeg (((sI z40.2 21 0 ((5 * v1) + 3).toNatClampNeg (mnI z15.1 (mxI 1 (mnI 400 ((z39.1 * z15.1) / (200 * z40.1)))))).1 21 0 ((5 * v1) + 1).toNatClampNeg) - (mnI z15.1 (mxI 1 (mnI 400 ((z39.1 * z15.1) / (200 * z40.1))))))) 21 0 ((5 * v1) + 2).toNatClampNeg (((sI (sI z40.2 21 0 ((5 * v1) + 3).toNatClampNeg (mnI z15.1 (mxI 1 (mnI 400 ((z39.1 * z15.1) / (200 * z40.1)))))) 21 0 ((5 * v1) + 1).toNatClampNeg (((sI z40.2 21 0 ((5 * v1) + 3).toNatClampNeg (mnI z15.1 (mxI 1 (mnI 400 ((z39.1 * z15.1) / (200 * z40.1)))))).1 21 0 ((5 * v1) + 1).toNatClampNeg) - (mnI z15.1 (mxI 1 (mnI 400 ((z39.1 * z15.1) / (200 * z40.1))))))).1 21 0 ((5 * v1) + 2).toNatClampNeg) + (mnI z15.1 (mxI 1 (mnI 400 ((z39.1 * z15.1) / (200 * z40.1)))))))).bind fun z42 => if (kN σ ≤ kN (sI (sI (sI z40.2 21 0 ((5 * v1) + 3).toNatClampNeg (mnI z15.1 (mxI 1 (mnI 400 ((z39.1 * z15.1) / (200 * z40.1)))))) 21 0 ((5 * v1) + 1).toNatClampNeg (((sI z40.2 21 0 ((5 * v1) + 3).toNatClampNeg (mnI z15.1 (mxI 1 (mnI 400 ((z39.1 * z15.1) / (200 * z40.1)))))).1 21 0 ((5 * v1) + 1).toNatClampNeg) - (mnI z15.1 (mxI 1 (mnI 400 ((z39.1 * z15.1) / (200 * z40.1))))))) 21 0 ((5 * v1) + 2).toNatClampNeg (((sI (sI z40.2 21 0 ((5 * v1) + 3).toNatClampNeg (mnI z15.1 (mxI 1 (mnI 400 ((z39.1 * z15.1) / (200 * z40.1)))))) 21 0 ((5 * v1) + 1).toNatClampNeg (((sI z40.2 21 0 ((5 * v1) + 3).toNatClampNeg (mnI z15.1 (mxI 1 (mnI 400 ((z39.1 * z15.1) / (200 * z40.1)))))).1 21 0 ((5 * v1) + 1).toNatClampNeg) - (mnI z15.1 (mxI 1 (mnI 400 ((z39.1 * z15.1) / (200 * z40.1))))))).1 21 0 ((5 * v1) + 2).toNatClampNeg) + (mnI z15.1 (mxI 1 (mnI 400 ((z39.1 * z15.1) / (200 * z40.1))))))) ∧ kN (sI (sI (sI z40.2 21 0 ((5 * v1) + 3).toNatClampNeg (mnI z15.1 (mxI 1 (mnI 400 ((z39.1 * z15.1) / (200 * z40.1)))))) 21 0 ((5 * v1) + 1).toNatClampNeg (((sI z40.2 21 0 ((5 * v1) + 3).toNatClampNeg (mnI z15.1 (mxI 1 (mnI 400 ((z39.1 * z15.1) / (200 * z40.1)))))).1 21 0 ((5 * v1) + 1).toNatClampNeg) - (mnI z15.1 (mxI 1 (mnI 400 ((z39.1 * z15.1) / (200 * z40.1))))))) 21 0 ((5 * v1) + 2).toNatClampNeg (((sI (sI z40.2 21 0 ((5 * v1) + 3).toNatClampNeg (mnI z15.1 (mxI 1 (mnI 400 ((z39.1 * z15.1) / (200 * z40.1)))))) 21 0 ((5 * v1) + 1).toNatClampNeg (((sI z40.2 21 0 ((5 * v1) + 3).toNatClampNeg (mnI z15.1 (mxI 1 (mnI 400 ((z39.1 * z15.1) / (200 * z40.1)))))).1 21 0 ((5 * v1) + 1).toNatClampNeg) - (mnI z15.1 (mxI 1 (mnI 400 ((z39.1 * z15.1) / (200 * z40.1))))))).1 21 0 ((5 * v1) + 2).toNatClampNeg) + (mnI z15.1 (mxI 1 (mnI 400 ((z39.1 * z15.1) / (200 * z40.1))))))) ≤ kN z42) then (((((LX5_oneTick_107 ns nb  n (v1 + 1) z42).bind fun r => if kN z42 ≤ kN r then some r else none)).bind fun r => if kN z42 ≤ kN r then some r else none)) else none))))))))))
def FX5_oneTick (ns nb : Nat) (σ : Sg)  : Option Sg :=
  (((LX5_oneTick_12 ns nb  4100 0 (sI σ 20 0 1 ((σ.1 20 0 1) + 1))).bind fun z13 => if (kN σ ≤ kN (sI σ 20 0 1 ((σ.1 20 0 1) + 1)) ∧ kN (sI σ 20 0 1 ((σ.1 20 0 1) + 1)) ≤ kN z13) then ((((LX5_oneTick_107 ns nb  4100 0 z13).bind fun z55 => if (kN z13 ≤ kN z13 ∧ kN z13 ≤ kN z55) then (((some z55).bind fun r => if kN z55 ≤ kN r then some r else none)) else none).bind fun r => if kN z13 ≤ kN r then some r else none)) else none).bind fun r => if kN σ ≤ kN r then some r else none)
set_option maxHeartbeats 4000000 in
set_option maxRecDepth 100000 in
theorem lX5_oneTick_24 {p : Program} {l : Launch} {e : Env} {s : State} {m : MethodId} {args : Array Value} {below : List Frame} {meth : Method} {c : Code} {Q : State → Prop} {lo : Nat} {g : Gx} {h : Sh} {k0 kf : Nat} (C0 : CallFix p m c cX5_oneTick 5 s args wB RX5) (hlo : lo ≤ s.heap.size) (hK : KW g s) (hZ : ZW lo s s.heap) (v1 : Int32)  : ∀ (n : Nat) (v2 : Int32) (σ : Sg) (z : (Sg)) (hF : LX5_oneTick_24 h.1 h.2.1 v1 n v2 σ = some z) (hk0 : k0 ≤ kN σ) (hkz : kN σ ≤ kN z) (hkf : kN z ≤ kf) (H : Heap) (locs : List Loc) (ls : Array Slot) (hW : FW g h (Ax lo) σ H) (hS : va_S (Ax lo) s.heap H locs) (hl : lv_has ls 5 [(0, .ref (h.2.2 20 0)), (1, .int v1), (2, .int v2)]) (kk : ∀ (H : Heap) (locs : List Loc) (ls : Array Slot), FW g h (Ax lo) z H → va_S (Ax lo) s.heap H locs → lv_has ls 5 [(0, .ref (h.2.2 20 0)), (1, .int v1)] → W p l e { frames := 3, cells := kf - k0, slots := 4 * (kf - k0), locals := 112 } s m args below meth c H locs (kN z - k0) (4 * (kN z - k0)) Q (F0 m 99 ls [])), W p l e { frames := 3, cells := kf - k0, slots := 4 * (kf - k0), locals := 112 } s m args below meth c H locs (kN σ - k0) (4 * (kN σ - k0)) Q (F0 m 24 ls []) := by
  have hx := C0.1
  have hb := C0.2.1
  intro n
  induction n with
  | zero =>
    intro v2 σ z hF
    rw [LX5_oneTick_24] at hF
    cases hF
  | succ n ih =>
    intro v2 σ z hF hk0 hkz hkf H locs ls hW hS hl kk
    rw [LX5_oneTick_24] at hF
    refine lv_iload_n hx hb dX5_oneTick_24 rfl (lv_at hl 2 rfl) ?_
    refine lv_aload_n hx hb dX5_oneTick_25 rfl (lv_at hl 0 rfl) ?_
    refine get20 C0 hK hW 0 (al20 h 20 (by decide)) 2 (by decide) wFL_X5_42 rfl rfl dX5_oneTick_26 ?_
    refine lv_icmp_ge (tgt := 99) hx hb dX5_oneTick_29 (by decide) (fun c2 => ?_) (fun c2 => ?_)
    · rw [if_pos c2] at hF
      cases hF
      exact kk _ _ _ hW hS (lv_sub hl [0, 1] rfl)
    · rw [if_neg c2] at hF
      refine lv_aload_n hx hb dX5_oneTick_32 rfl (lv_at hl 0 rfl) ?_
      refine get20 C0 hK hW 0 (al20 h 20 (by decide)) 6 (by decide) wFL_X5_16 rfl rfl dX5_oneTick_33 ?_
      refine lv_iconst (v := 4) hx hb dX5_oneTick_36 (by decide) ?_
      refine lv_iload_n hx hb dX5_oneTick_37 rfl (lv_at hl 1 rfl) ?_
      refine lv_imul hx hb dX5_oneTick_38 ?_
      refine lv_iload_n hx hb dX5_oneTick_39 rfl (lv_at hl 2 rfl) ?_
      refine lv_iadd hx hb dX5_oneTick_40 ?_
      obtain ⟨hg, hF⟩ := grd hF
      refine zld C0 hK hW hg dX5_oneTick_41 ?_
      refine lv_if_ne (tgt := 48) hx hb dX5_oneTick_42 (by decide) (fun c3 => ?_) (fun c3 => ?_)
      · rw [if_neg c3] at hF
        refine lv_aload_n hx hb dX5_oneTick_48 rfl (lv_at hl 0 rfl) ?_
        refine lv_iload_n hx hb dX5_oneTick_49 rfl (lv_at hl 1 rfl) ?_
        refine lv_iconst (v := 1) hx hb dX5_oneTick_50 (by decide) ?_
        obtain ⟨z4, hz4, hF⟩ := bnd hF
        refine inI (runV C0 hlo hK hZ hW hS (kX5_sp l lo g h _ v1 1  _ _ hz4) wCO_X5_sp wML_X5_67 wIM_X5_sp wSE_X5_X5_sp wIN_X5 hdX5_sp ⟨Nat.le_of_ble_eq_true rfl, Nat.le_of_ble_eq_true rfl⟩ (recvK hK hW (al20 h 20 (by decide)) (ct20 0) rfl) rfl hl.1 rfl (Nat.le_of_ble_eq_true rfl) dX5_oneTick_51 ⟨by show kN σ - k0 + 0 ≤ kf - k0; omega, by show 4 * (kN σ - k0) + 0 ≤ 4 * (kf - k0); omega⟩) hS (fun H locs hW hS => ?_)
        refine lv_aload_n hx hb dX5_oneTick_54 rfl (lv_at hl 0 rfl) ?_
        refine lv_iload_n hx hb dX5_oneTick_55 rfl (lv_at hl 2 rfl) ?_
        refine lv_iconst (v := 1) hx hb dX5_oneTick_56 (by decide) ?_
        obtain ⟨z5, hz5, hF⟩ := bnd hF
        refine inI (runV C0 hlo hK hZ hW hS (kX5_sp l lo g h _ v2 1  _ _ hz5) wCO_X5_sp wML_X5_67 wIM_X5_sp wSE_X5_X5_sp wIN_X5 hdX5_sp ⟨Nat.le_of_ble_eq_true rfl, Nat.le_of_ble_eq_true rfl⟩ (recvK hK hW (al20 h 20 (by decide)) (ct20 0) rfl) rfl hl.1 rfl (Nat.le_of_ble_eq_true rfl) dX5_oneTick_57 ⟨by show kN σ - k0 + 0 ≤ kf - k0; omega, by show 4 * (kN σ - k0) + 0 ≤ 4 * (kf - k0); omega⟩) hS (fun H locs hW hS => ?_)
        refine lv_isub hx hb dX5_oneTick_60 ?_
        refine lv_bipush (v := 10) hx hb dX5_oneTick_61 (by decide) ?_
        refine lv_idiv hx hb dX5_oneTick_63 (by decide) ?_
        refine lv_istore_n (lv' := [(3, .int ((z4.1 - z5.1) / 10)), (0, .ref (h.2.2 20 0)), (1, .int v1), (2, .int v2)]) hx hb dX5_oneTick_64 rfl hl (by decide) rfl (fun ls hl => ?_)
        refine lv_aload_n hx hb dX5_oneTick_65 rfl (lv_at hl 1 rfl) ?_
        refine get20 C0 hK hW 0 (al20 h 20 (by decide)) 4 (by decide) wFL_X5_9 rfl rfl dX5_oneTick_66 ?_
        refine lv_iconst (v := 5) hx hb dX5_oneTick_69 (by decide) ?_
        refine lv_iload_n hx hb dX5_oneTick_70 rfl (lv_at hl 2 rfl) ?_
        refine lv_imul hx hb dX5_oneTick_71 ?_
        refine lv_iconst (v := 1) hx hb dX5_oneTick_72 (by decide) ?_
        refine lv_iadd hx hb dX5_oneTick_73 ?_
        refine lv_dup2_11 hx hb dX5_oneTick_74 rfl rfl ?_
        obtain ⟨hg, hF⟩ := grd hF
        refine ald C0 hK hW 21 0 (al20 h 21 (by decide)) (by decide) hg dX5_oneTick_75 ?_
        refine lv_iload_n hx hb dX5_oneTick_76 rfl (lv_at hl 0 rfl) ?_
        refine lv_isub hx hb dX5_oneTick_77 ?_
        obtain ⟨hg, hF⟩ := grd hF
        refine ast C0 hK hW hS 21 0 (al20 h 21 (by decide)) (by decide) hg dX5_oneTick_78 (fun H locs hW hS => ?_)
        refine lv_aload_n hx hb dX5_oneTick_79 rfl (lv_at hl 1 rfl) ?_
        refine get20 C0 hK hW 0 (al20 h 20 (by decide)) 4 (by decide) wFL_X5_9 rfl rfl dX5_oneTick_80 ?_
        refine lv_iconst (v := 5) hx hb dX5_oneTick_83 (by decide) ?_
        refine lv_iload_n hx hb dX5_oneTick_84 rfl (lv_at hl 3 rfl) ?_
        refine lv_imul hx hb dX5_oneTick_85 ?_
        refine lv_iconst (v := 1) hx hb dX5_oneTick_86 (by decide) ?_
        refine lv_iadd hx hb dX5_oneTick_87 ?_
        refine lv_dup2_11 hx hb dX5_oneTick_88 rfl rfl ?_
        obtain ⟨hg, hF⟩ := grd hF
        refine ald C0 hK hW 21 0 (al20 h 21 (by decide)) (by decide) hg dX5_oneTick_89 ?_
        refine lv_iload_n hx hb dX5_oneTick_90 rfl (lv_at hl 0 rfl) ?_
        refine lv_iadd hx hb dX5_oneTick_91 ?_
        obtain ⟨hg, hF⟩ := grd hF
        refine ast C0 hK hW hS 21 0 (al20 h 21 (by decide)) (by decide) hg dX5_oneTick_92 (fun H locs hW hS => ?_)
        refine lv_iinc (v := v2 + 1) (lv' := [(2, .int (v2 + 1)), (3, .int ((z4.1 - z5.1) / 10)), (0, .ref (h.2.2 20 0)), (1, .int v1)]) hx hb dX5_oneTick_93 hl (k := 3) rfl rfl (by decide) rfl (fun ls hl => ?_)
        refine lv_goto (tgt := 24) hx hb dX5_oneTick_96 (by decide) ?_
        obtain ⟨hg7, hF⟩ := grp hF
        obtain ⟨hF, hp6⟩ := pst hF
        have hq6 : kN (sI (sI z5.2 21 0 ((5 * v1) + 1).toNatClampNeg ((z5.2.1 21 0 ((5 * v1) + 1).toNatClampNeg) - ((z4.1 - z5.1) / 10))) 21 0 ((5 * v2) + 1).toNatClampNeg (((sI z5.2 21 0 ((5 * v1) + 1).toNatClampNeg ((z5.2.1 21 0 ((5 * v1) + 1).toNatClampNeg) - ((z4.1 - z5.1) / 10))).1 21 0 ((5 * v2) + 1).toNatClampNeg) + ((z4.1 - z5.1) / 10))) ≤ kN z := hp6
        clear hp6
        refine W.widen (k := kN (sI (sI z5.2 21 0 ((5 * v1) + 1).toNatClampNeg ((z5.2.1 21 0 ((5 * v1) + 1).toNatClampNeg) - ((z4.1 - z5.1) / 10))) 21 0 ((5 * v2) + 1).toNatClampNeg (((sI z5.2 21 0 ((5 * v1) + 1).toNatClampNeg ((z5.2.1 21 0 ((5 * v1) + 1).toNatClampNeg) - ((z4.1 - z5.1) / 10))).1 21 0 ((5 * v2) + 1).toNatClampNeg) + ((z4.1 - z5.1) / 10))) - k0) (n := 4 * (kN (sI (sI z5.2 21 0 ((5 * v1) + 1).toNatClampNeg ((z5.2.1 21 0 ((5 * v1) + 1).toNatClampNeg) - ((z4.1 - z5.1) / 10))) 21 0 ((5 * v2) + 1).toNatClampNeg (((sI z5.2 21 0 ((5 * v1) + 1).toNatClampNeg ((z5.2.1 21 0 ((5 * v1) + 1).toNatClampNeg) - ((z4.1 - z5.1) / 10))).1 21 0 ((5 * v2) + 1).toNatClampNeg) + ((z4.1 - z5.1) / 10))) - k0)) (by omega) (by omega) ?_
        exact ih (v2 + 1) (sI (sI z5.2 21 0 ((5 * v1) + 1).toNatClampNeg ((z5.2.1 21 0 ((5 * v1) + 1).toNatClampNeg) - ((z4.1 - z5.1) / 10))) 21 0 ((5 * v2) + 1).toNatClampNeg (((sI z5.2 21 0 ((5 * v1) + 1).toNatClampNeg ((z5.2.1 21 0 ((5 * v1) + 1).toNatClampNeg) - ((z4.1 - z5.1) / 10))).1 21 0 ((5 * v2) + 1).toNatClampNeg) + ((z4.1 - z5.1) / 10))) z hF (by omega) (by omega) (by omega) _ _ _ hW hS (lv_sub hl [2, 3, 0] rfl) kk
      · rw [if_pos c3] at hF
        refine lv_goto (tgt := 93) hx hb dX5_oneTick_45 (by decide) ?_
        refine lv_iinc (v := v2 + 1) (lv' := [(2, .int (v2 + 1)), (0, .ref (h.2.2 20 0)), (1, .int v1)]) hx hb dX5_oneTick_93 hl (k := 2) rfl rfl (by decide) rfl (fun ls hl => ?_)
        refine lv_goto (tgt := 24) hx hb dX5_oneTick_96 (by decide) ?_
        obtain ⟨hF, hp8⟩ := pst hF
        have hq8 : kN σ ≤ kN z := hp8
        clear hp8
        refine W.widen (k := kN σ - k0) (n := 4 * (kN σ - k0)) (by omega) (by omega) ?_
        exact ih (v2 + 1) σ z hF (by omega) (by omega) (by omega) _ _ _ hW hS (lv_sub hl [1, 2, 0] rfl) kk
set_option maxHeartbeats 4000000 in
set_option maxRecDepth 100000 in
theorem lX5_oneTick_12 {p : Program} {l : Launch} {e : Env} {s : State} {m : MethodId} {args : Array Value} {below : List Frame} {meth : Method} {c : Code} {Q : State → Prop} {lo : Nat} {g : Gx} {h : Sh} {k0 kf : Nat} (C0 : CallFix p m c cX5_oneTick 5 s args wB RX5) (hlo : lo ≤ s.heap.size) (hK : KW g s) (hZ : ZW lo s s.heap)   : ∀ (n : Nat) (v1 : Int32) (σ : Sg) (z : (Sg)) (hF : LX5_oneTick_12 h.1 h.2.1  n v1 σ = some z) (hk0 : k0 ≤ kN σ) (hkz : kN σ ≤ kN z) (hkf : kN z ≤ kf) (H : Heap) (locs : List Loc) (ls : Array Slot) (hW : FW g h (Ax lo) σ H) (hS : va_S (Ax lo) s.heap H locs) (hl : lv_has ls 5 [(0, .ref (h.2.2 20 0)), (1, .int v1)]) (kk : ∀ (H : Heap) (locs : List Loc) (ls : Array Slot), FW g h (Ax lo) z H → va_S (Ax lo) s.heap H locs → lv_has ls 5 [(0, .ref (h.2.2 20 0))] → W p l e { frames := 3, cells := kf - k0, slots := 4 * (kf - k0), locals := 112 } s m args below meth c H locs (kN z - k0) (4 * (kN z - k0)) Q (F0 m 105 ls [])), W p l e { frames := 3, cells := kf - k0, slots := 4 * (kf - k0), locals := 112 } s m args below meth c H locs (kN σ - k0) (4 * (kN σ - k0)) Q (F0 m 12 ls []) := by
  have hx := C0.1
  have hb := C0.2.1
  intro n
  induction n with
  | zero =>
    intro v1 σ z hF
    rw [LX5_oneTick_12] at hF
    cases hF
  | succ n ih =>
    intro v1 σ z hF hk0 hkz hkf H locs ls hW hS hl kk
    rw [LX5_oneTick_12] at hF
    refine lv_iload_n hx hb dX5_oneTick_12 rfl (lv_at hl 1 rfl) ?_
    refine lv_aload_n hx hb dX5_oneTick_13 rfl (lv_at hl 0 rfl) ?_
    refine get20 C0 hK hW 0 (al20 h 20 (by decide)) 2 (by decide) wFL_X5_42 rfl rfl dX5_oneTick_14 ?_
    refine lv_icmp_ge (tgt := 105) hx hb dX5_oneTick_17 (by decide) (fun c1 => ?_) (fun c1 => ?_)
    · rw [if_pos c1] at hF
      cases hF
      exact kk _ _ _ hW hS (lv_sub hl [0] rfl)
    · rw [if_neg c1] at hF
      refine lv_iload_n hx hb dX5_oneTick_20 rfl (lv_at hl 1 rfl) ?_
      refine lv_iconst (v := 1) hx hb dX5_oneTick_21 (by decide) ?_
      refine lv_iadd hx hb dX5_oneTick_22 ?_
      refine lv_istore_n (lv' := [(2, .int (v1 + 1)), (0, .ref (h.2.2 20 0)), (1, .int v1)]) hx hb dX5_oneTick_23 rfl hl (by decide) rfl (fun ls hl => ?_)
      obtain ⟨z9, hz9, hF⟩ := bnd hF
      obtain ⟨hg12, hF⟩ := grp hF
      obtain ⟨hF, hp11⟩ := pst hF
      have hq11 : kN z9 ≤ kN z := hp11
      clear hp11
      refine W.widen (k := kN σ - k0) (n := 4 * (kN σ - k0)) (by omega) (by omega) ?_
      refine lX5_oneTick_24 (k0 := k0) (kf := kf) C0 hlo hK hZ v1  _ (v1 + 1) _ z9 hz9 (by omega) (by omega) (by omega) _ _ _ hW hS (lv_sub hl [1, 2, 0] rfl) (fun H locs ls hW hS hl => ?_)
      refine lv_iinc (v := v1 + 1) (lv' := [(1, .int (v1 + 1)), (0, .ref (h.2.2 20 0))]) hx hb dX5_oneTick_99 hl (k := 1) rfl rfl (by decide) rfl (fun ls hl => ?_)
      refine lv_goto (tgt := 12) hx hb dX5_oneTick_102 (by decide) ?_
      obtain ⟨hF, hp10⟩ := pst hF
      have hq10 : kN z9 ≤ kN z := hp10
      clear hp10
      refine W.widen (k := kN z9 - k0) (n := 4 * (kN z9 - k0)) (by omega) (by omega) ?_
      exact ih (v1 + 1) z9 z hF (by omega) (by omega) (by omega) _ _ _ hW hS (lv_sub hl [1, 0] rfl) kk
set_option maxHeartbeats 4000000 in
set_option maxRecDepth 100000 in
theorem lX5_oneTick_222 {p : Program} {l : Launch} {e : Env} {s : State} {m : MethodId} {args : Array Value} {below : List Frame} {meth : Method} {c : Code} {Q : State → Prop} {lo : Nat} {g : Gx} {h : Sh} {k0 kf : Nat} (C0 : CallFix p m c cX5_oneTick 5 s args wB RX5) (hlo : lo ≤ s.heap.size) (hK : KW g s) (hZ : ZW lo s s.heap) (v1 : Int32)  : ∀ (n : Nat) (v4 : Int32) (σ : Sg) (z : (Sg)) (hF : LX5_oneTick_222 h.1 h.2.1 v1 n v4 σ = some z) (hk0 : k0 ≤ kN σ) (hkz : kN σ ≤ kN z) (hkf : kN z ≤ kf) (H : Heap) (locs : List Loc) (ls : Array Slot) (hW : FW g h (Ax lo) σ H) (hS : va_S (Ax lo) s.heap H locs) (hl : lv_has ls 5 [(0, .ref (h.2.2 20 0)), (1, .int v1), (4, .int v4)]) (kk : ∀ (H : Heap) (locs : List Loc) (ls : Array Slot), FW g h (Ax lo) z H → va_S (Ax lo) s.heap H locs → lv_has ls 5 [(0, .ref (h.2.2 20 0)), (1, .int v1)] → W p l e { frames := 3, cells := kf - k0, slots := 4 * (kf - k0), locals := 112 } s m args below meth c H locs (kN z - k0) (4 * (kN z - k0)) Q (F0 m 266 ls [])), W p l e { frames := 3, cells := kf - k0, slots := 4 * (kf - k0), locals := 112 } s m args below meth c H locs (kN σ - k0) (4 * (kN σ - k0)) Q (F0 m 222 ls []) := by
  have hx := C0.1
  have hb := C0.2.1
  intro n
  induction n with
  | zero =>
    intro v4 σ z hF
    rw [LX5_oneTick_222] at hF
    cases hF
  | succ n ih =>
    intro v4 σ z hF hk0 hkz hkf H locs ls hW hS hl kk
    rw [LX5_oneTick_222] at hF
    refine lv_iload hx hb dX5_oneTick_222 (lv_at hl 2 rfl) ?_
    refine lv_aload_n hx hb dX5_oneTick_224 rfl (lv_at hl 0 rfl) ?_
    refine get20 C0 hK hW 0 (al20 h 20 (by decide)) 3 (by decide) wFL_X5_49 rfl rfl dX5_oneTick_225 ?_
    refine lv_icmp_ge (tgt := 266) hx hb dX5_oneTick_228 (by decide) (fun c19 => ?_) (fun c19 => ?_)
    · rw [if_pos c19] at hF
      cases hF
      exact kk _ _ _ hW hS (lv_sub hl [0, 1] rfl)
    · rw [if_neg c19] at hF
      refine lv_aload_n hx hb dX5_oneTick_231 rfl (lv_at hl 0 rfl) ?_
      refine lv_iload hx hb dX5_oneTick_232 (lv_at hl 2 rfl) ?_
      refine lv_iconst (v := 0) hx hb dX5_oneTick_234 (by decide) ?_
      obtain ⟨z20, hz20, hF⟩ := bnd hF
      refine inI (runV C0 hlo hK hZ hW hS (kX5_get l lo g h _ v4 0  _ _ hz20) wCO_X5_get wML_X5_77 wIM_X5_get wSE_X5_X5_get wIN_X5 hdX5_get ⟨Nat.le_of_ble_eq_true rfl, Nat.le_of_ble_eq_true rfl⟩ (recvK hK hW (al20 h 20 (by decide)) (ct20 0) rfl) rfl hl.1 rfl (Nat.le_of_ble_eq_true rfl) dX5_oneTick_235 ⟨by show kN σ - k0 + 0 ≤ kf - k0; omega, by show 4 * (kN σ - k0) + 0 ≤ 4 * (kf - k0); omega⟩) hS (fun H locs hW hS => ?_)
      refine lv_iload_n hx hb dX5_oneTick_238 rfl (lv_at hl 1 rfl) ?_
      refine lv_icmp_ne (tgt := 260) hx hb dX5_oneTick_239 (by decide) (fun c21 => ?_) (fun c21 => ?_)
      · rw [if_neg c21] at hF
        refine lv_iinc (v := v4 + 1) (lv' := [(4, .int (v4 + 1)), (0, .ref (h.2.2 20 0)), (1, .int v1)]) hx hb dX5_oneTick_260 hl (k := 2) rfl rfl (by decide) rfl (fun ls hl => ?_)
        refine lv_goto (tgt := 222) hx hb dX5_oneTick_263 (by decide) ?_
        obtain ⟨hg23, hF⟩ := grp hF
        obtain ⟨hF, hp22⟩ := pst hF
        have hq22 : kN z20.2 ≤ kN z := hp22
        clear hp22
        refine W.widen (k := kN z20.2 - k0) (n := 4 * (kN z20.2 - k0)) (by omega) (by omega) ?_
        exact ih (v4 + 1) z20.2 z hF (by omega) (by omega) (by omega) _ _ _ hW hS (lv_sub hl [1, 2, 0] rfl) kk
      · rw [if_pos c21] at hF
        refine lv_aload_n hx hb dX5_oneTick_242 rfl (lv_at hl 0 rfl) ?_
        refine lv_iload hx hb dX5_oneTick_243 (lv_at hl 2 rfl) ?_
        refine lv_bipush (v := 6) hx hb dX5_oneTick_245 (by decide) ?_
        obtain ⟨z24, hz24, hF⟩ := bnd hF
        refine inI (runV C0 hlo hK hZ hW hS (kX5_get l lo g h _ v4 6  _ _ hz24) wCO_X5_get wML_X5_77 wIM_X5_get wSE_X5_X5_get wIN_X5 hdX5_get ⟨Nat.le_of_ble_eq_true rfl, Nat.le_of_ble_eq_true rfl⟩ (recvK hK hW (al20 h 20 (by decide)) (ct20 0) rfl) rfl hl.1 rfl (Nat.le_of_ble_eq_true rfl) dX5_oneTick_247 ⟨by show kN σ - k0 + 0 ≤ kf - k0; omega, by show 4 * (kN σ - k0) + 0 ≤ 4 * (kf - k0); omega⟩) hS (fun H locs hW hS => ?_)
        refine lv_iconst (v := 1) hx hb dX5_oneTick_250 (by decide) ?_
        refine lv_icmp_ne (tgt := 260) hx hb dX5_oneTick_251 (by decide) (fun c25 => ?_) (fun c25 => ?_)
        · rw [if_neg c25] at hF
          refine lv_iinc (v := v4 + 1) (lv' := [(4, .int (v4 + 1)), (0, .ref (h.2.2 20 0)), (1, .int v1)]) hx hb dX5_oneTick_260 hl (k := 2) rfl rfl (by decide) rfl (fun ls hl => ?_)
          refine lv_goto (tgt := 222) hx hb dX5_oneTick_263 (by decide) ?_
          obtain ⟨hg27, hF⟩ := grp hF
          obtain ⟨hF, hp26⟩ := pst hF
          have hq26 : kN z24.2 ≤ kN z := hp26
          clear hp26
          refine W.widen (k := kN z24.2 - k0) (n := 4 * (kN z24.2 - k0)) (by omega) (by omega) ?_
          exact ih (v4 + 1) z24.2 z hF (by omega) (by omega) (by omega) _ _ _ hW hS (lv_sub hl [1, 2, 0] rfl) kk
        · rw [if_pos c25] at hF
          refine lv_aload_n hx hb dX5_oneTick_254 rfl (lv_at hl 0 rfl) ?_
          refine lv_iload hx hb dX5_oneTick_255 (lv_at hl 2 rfl) ?_
          obtain ⟨z28, hz28, hF⟩ := bnd hF
          obtain ⟨hg31, hF⟩ := grp hF
          obtain ⟨hF, hp30⟩ := pst hF
          have hq30 : kN z28 ≤ kN z := hp30
          clear hp30
          refine W.widen (k := kN z24.2 - k0) (n := 4 * (kN z24.2 - k0)) (by omega) (by omega) ?_
          refine inV (runV C0 hlo hK hZ hW hS (kX5_turn l lo g h _ v4  _ hz28) wCO_X5_turn wML_X5_131 wIM_X5_turn wSE_X5_X5_turn wIN_X5 hdX5_turn ⟨Nat.le_of_ble_eq_true rfl, Nat.le_of_ble_eq_true rfl⟩ (recvK hK hW (al20 h 20 (by decide)) (ct20 0) rfl) rfl hl.1 rfl (Nat.le_of_ble_eq_true rfl) dX5_oneTick_257 ⟨by show kN z24.2 - k0 + (kN z28 - kN z24.2) ≤ kf - k0; omega, by show 4 * (kN z24.2 - k0) + 4 * (kN z28 - kN z24.2) ≤ 4 * (kf - k0); omega⟩) hS (fun H locs hW hS => ?_)
          refine W.widen (k := kN z28 - k0) (n := 4 * (kN z28 - k0)) (by omega) (by omega) ?_
          refine lv_iinc (v := v4 + 1) (lv' := [(4, .int (v4 + 1)), (0, .ref (h.2.2 20 0)), (1, .int v1)]) hx hb dX5_oneTick_260 hl (k := 2) rfl rfl (by decide) rfl (fun ls hl => ?_)
          refine lv_goto (tgt := 222) hx hb dX5_oneTick_263 (by decide) ?_
          obtain ⟨hF, hp29⟩ := pst hF
          have hq29 : kN z28 ≤ kN z := hp29
          clear hp29
          refine W.widen (k := kN z28 - k0) (n := 4 * (kN z28 - k0)) (by omega) (by omega) ?_
          exact ih (v4 + 1) z28 z hF (by omega) (by omega) (by omega) _ _ _ hW hS (lv_sub hl [1, 2, 0] rfl) kk
set_option maxHeartbeats 4000000 in
set_option maxRecDepth 100000 in
theorem lX5_oneTick_107 {p : Program} {l : Launch} {e : Env} {s : State} {m : MethodId} {args : Array Value} {below : List Frame} {meth : Method} {c : Code} {Q : State → Prop} {lo : Nat} {g : Gx} {h : Sh} {k0 kf : Nat} (C0 : CallFix p m c cX5_oneTick 5 s args wB RX5) (hlo : lo ≤ s.heap.size) (hK : KW g s) (hZ : ZW lo s s.heap)   : ∀ (n : Nat) (v1 : Int32) (σ : Sg) (z : (Sg)) (hF : LX5_oneTick_107 h.1 h.2.1  n v1 σ = some z) (hk0 : k0 ≤ kN σ) (hkz : kN σ ≤ kN z) (hkf : kN z ≤ kf) (H : Heap) (locs : List Loc) (ls : Array Slot) (hW : FW g h (Ax lo) σ H) (hS : va_S (Ax lo) s.heap H locs) (hl : lv_has ls 5 [(0, .ref (h.2.2 20 0)), (1, .int v1)]) (kk : ∀ (H : Heap) (locs : List Loc) (ls : Array Slot), FW g h (Ax lo) z H → va_S (Ax lo) s.heap H locs → lv_has ls 5 [] → W p l e { frames := 3, cells := kf - k0, slots := 4 * (kf - k0), locals := 112 } s m args below meth c H locs (kN z - k0) (4 * (kN z - k0)) Q (F0 m 272 ls [])), W p l e { frames := 3, cells := kf - k0, slots := 4 * (kf - k0), locals := 112 } s m args below meth c H locs (kN σ - k0) (4 * (kN σ - k0)) Q (F0 m 107 ls []) := by
  have hx := C0.1
  have hb := C0.2.1
  intro n
  induction n with
  | zero =>
    intro v1 σ z hF
    rw [LX5_oneTick_107] at hF
    cases hF
  | succ n ih =>
    intro v1 σ z hF hk0 hkz hkf H locs ls hW hS hl kk
    rw [LX5_oneTick_107] at hF
    refine lv_iload_n hx hb dX5_oneTick_107 rfl (lv_at hl 1 rfl) ?_
    refine lv_aload_n hx hb dX5_oneTick_108 rfl (lv_at hl 0 rfl) ?_
    refine get20 C0 hK hW 0 (al20 h 20 (by decide)) 2 (by decide) wFL_X5_42 rfl rfl dX5_oneTick_109 ?_
    refine lv_icmp_ge (tgt := 272) hx hb dX5_oneTick_112 (by decide) (fun c14 => ?_) (fun c14 => ?_)
    · rw [if_pos c14] at hF
      cases hF
      exact kk _ _ _ hW hS (lv_sub hl [] rfl)
    · rw [if_neg c14] at hF
      refine lv_aload_n hx hb dX5_oneTick_115 rfl (lv_at hl 0 rfl) ?_
      refine lv_iload_n hx hb dX5_oneTick_116 rfl (lv_at hl 1 rfl) ?_
      refine lv_iconst (v := 1) hx hb dX5_oneTick_117 (by decide) ?_
      obtain ⟨z15, hz15, hF⟩ := bnd hF
      refine inI (runV C0 hlo hK hZ hW hS (kX5_sp l lo g h _ v1 1  _ _ hz15) wCO_X5_sp wML_X5_67 wIM_X5_sp wSE_X5_X5_sp wIN_X5 hdX5_sp ⟨Nat.le_of_ble_eq_true rfl, Nat.le_of_ble_eq_true rfl⟩ (recvK hK hW (al20 h 20 (by decide)) (ct20 0) rfl) rfl hl.1 rfl (Nat.le_of_ble_eq_true rfl) dX5_oneTick_118 ⟨by show kN σ - k0 + 0 ≤ kf - k0; omega, by show 4 * (kN σ - k0) + 0 ≤ 4 * (kf - k0); omega⟩) hS (fun H locs hW hS => ?_)
      refine lv_istore_n (lv' := [(2, .int z15.1), (0, .ref (h.2.2 20 0)), (1, .int v1)]) hx hb dX5_oneTick_121 rfl hl (by decide) rfl (fun ls hl => ?_)
      refine lv_aload_n hx hb dX5_oneTick_122 rfl (lv_at hl 1 rfl) ?_
      refine lv_iload_n hx hb dX5_oneTick_123 rfl (lv_at hl 2 rfl) ?_
      refine lv_iconst (v := 4) hx hb dX5_oneTick_124 (by decide) ?_
      obtain ⟨z16, hz16, hF⟩ := bnd hF
      refine inI (runV C0 hlo hK hZ hW hS (kX5_sp l lo g h _ v1 4  _ _ hz16) wCO_X5_sp wML_X5_67 wIM_X5_sp wSE_X5_X5_sp wIN_X5 hdX5_sp ⟨Nat.le_of_ble_eq_true rfl, Nat.le_of_ble_eq_true rfl⟩ (recvK hK hW (al20 h 20 (by decide)) (ct20 0) rfl) rfl hl.1 rfl (Nat.le_of_ble_eq_true rfl) dX5_oneTick_125 ⟨by show kN σ - k0 + 0 ≤ kf - k0; omega, by show 4 * (kN σ - k0) + 0 ≤ 4 * (kf - k0); omega⟩) hS (fun H locs hW hS => ?_)
      refine lv_iconst (v := 1) hx hb dX5_oneTick_128 (by decide) ?_
      refine lv_icmp_eq (tgt := 136) hx hb dX5_oneTick_129 (by decide) (fun c17 => ?_) (fun c17 => ?_)
      · rw [if_pos c17] at hF
        refine lv_iconst (v := 0) hx hb dX5_oneTick_136 (by decide) ?_
        refine lv_goto (tgt := 172) hx hb dX5_oneTick_137 (by decide) ?_
        refine lv_istore_n (lv' := [(3, .int 0), (2, .int z15.1), (0, .ref (h.2.2 20 0)), (1, .int v1)]) hx hb dX5_oneTick_172 rfl hl (by decide) rfl (fun ls hl => ?_)
        refine lv_aload_n hx hb dX5_oneTick_173 rfl (lv_at hl 2 rfl) ?_
        refine get20 C0 hK hW 0 (al20 h 20 (by decide)) 4 (by decide) wFL_X5_9 rfl rfl dX5_oneTick_174 ?_
        refine lv_iconst (v := 5) hx hb dX5_oneTick_177 (by decide) ?_
        refine lv_iload_n hx hb dX5_oneTick_178 rfl (lv_at hl 3 rfl) ?_
        refine lv_imul hx hb dX5_oneTick_179 ?_
        refine lv_iconst (v := 3) hx hb dX5_oneTick_180 (by decide) ?_
        refine lv_iadd hx hb dX5_oneTick_181 ?_
        refine lv_iload_n hx hb dX5_oneTick_182 rfl (lv_at hl 0 rfl) ?_
        obtain ⟨hg, hF⟩ := grd hF
        refine ast C0 hK hW hS 21 0 (al20 h 21 (by decide)) (by decide) hg dX5_oneTick_183 (fun H locs hW hS => ?_)
        refine lv_iload_n hx hb dX5_oneTick_184 rfl (lv_at hl 0 rfl) ?_
        refine lv_if_ne (tgt := 191) hx hb dX5_oneTick_185 (by decide) (fun c18 => absurd (by decide) c18) (fun _ => ?_)
        refine lv_goto (tgt := 266) hx hb dX5_oneTick_188 (by decide) ?_
        refine lv_iinc (v := v1 + 1) (lv' := [(1, .int (v1 + 1)), (3, .int 0), (2, .int z15.1), (0, .ref (h.2.2 20 0))]) hx hb dX5_oneTick_266 hl (k := 3) rfl rfl (by decide) rfl (fun ls hl => ?_)
        refine lv_goto (tgt := 107) hx hb dX5_oneTick_269 (by decide) ?_
        obtain ⟨hg37, hF⟩ := grp hF
        obtain ⟨hF, hp36⟩ := pst hF
        have hq36 : kN (sI z16.2 21 0 ((5 * v1) + 3).toNatClampNeg 0) ≤ kN z := hp36
        clear hp36
        refine W.widen (k := kN (sI z16.2 21 0 ((5 * v1) + 3).toNatClampNeg 0) - k0) (n := 4 * (kN (sI z16.2 21 0 ((5 * v1) + 3).toNatClampNeg 0) - k0)) (by omega) (by omega) ?_
        exact ih (v1 + 1) (sI z16.2 21 0 ((5 * v1) + 3).toNatClampNeg 0) z hF (by omega) (by omega) (by omega) _ _ _ hW hS (lv_sub hl [3, 0] rfl) kk
      · rw [if_neg c17] at hF
        refine lv_iload_n hx hb dX5_oneTick_132 rfl (lv_at hl 0 rfl) ?_
        refine lv_if_ne (tgt := 140) hx hb dX5_oneTick_133 (by decide) (fun c38 => ?_) (fun c38 => ?_)
        · rw [if_neg c38] at hF
          refine lv_iload_n hx hb dX5_oneTick_140 rfl (lv_at hl 0 rfl) ?_
          refine lv_iconst (v := 1) hx hb dX5_oneTick_141 (by decide) ?_
          refine lv_sipush (v := 400) hx hb dX5_oneTick_142 (by decide) ?_
          refine lv_aload_n hx hb dX5_oneTick_145 rfl (lv_at hl 1 rfl) ?_
          refine lv_iload_n hx hb dX5_oneTick_146 rfl (lv_at hl 2 rfl) ?_
          refine lv_iconst (v := 0) hx hb dX5_oneTick_147 (by decide) ?_
          obtain ⟨z39, hz39, hF⟩ := bnd hF
          refine inI (runV C0 hlo hK hZ hW hS (kX5_sp l lo g h _ v1 0  _ _ hz39) wCO_X5_sp wML_X5_67 wIM_X5_sp wSE_X5_X5_sp wIN_X5 hdX5_sp ⟨Nat.le_of_ble_eq_true rfl, Nat.le_of_ble_eq_true rfl⟩ (recvK hK hW (al20 h 20 (by decide)) (ct20 0) rfl) rfl hl.1 rfl (Nat.le_of_ble_eq_true rfl) dX5_oneTick_148 ⟨by show kN σ - k0 + 0 ≤ kf - k0; omega, by show 4 * (kN σ - k0) + 0 ≤ 4 * (kf - k0); omega⟩) hS (fun H locs hW hS => ?_)
          refine lv_iload_n hx hb dX5_oneTick_151 rfl (lv_at hl 0 rfl) ?_
          refine lv_imul hx hb dX5_oneTick_152 ?_
          refine lv_sipush (v := 200) hx hb dX5_oneTick_153 (by decide) ?_
          refine lv_aload_n hx hb dX5_oneTick_156 rfl (lv_at hl 1 rfl) ?_
          refine lv_iload_n hx hb dX5_oneTick_157 rfl (lv_at hl 2 rfl) ?_
          obtain ⟨z40, hz40, hF⟩ := bnd hF
          refine inI (runV C0 hlo hK hZ hW hS (kX5_load l lo g h _ v1  _ _ hz40) wCO_X5_load wML_X5_84 wIM_X5_load wSE_X5_X5_load wIN_X5 hdX5_load ⟨Nat.le_of_ble_eq_true rfl, Nat.le_of_ble_eq_true rfl⟩ (recvK hK hW (al20 h 20 (by decide)) (ct20 0) rfl) rfl hl.1 rfl (Nat.le_of_ble_eq_true rfl) dX5_oneTick_158 ⟨by show kN σ - k0 + 0 ≤ kf - k0; omega, by show 4 * (kN σ - k0) + 0 ≤ 4 * (kf - k0); omega⟩) hS (fun H locs hW hS => ?_)
          refine lv_imul hx hb dX5_oneTick_161 ?_
          obtain ⟨hg, hF⟩ := grd hF
          refine lv_idiv hx hb dX5_oneTick_162 hg ?_
          refine r_min C0 hl.1 wML_X5_61 (Nat.le_of_ble_eq_true rfl) (Nat.le_of_ble_eq_true rfl) (by show kN σ - k0 ≤ kf - k0; omega) (by show 4 * (kN σ - k0) ≤ 4 * (kf - k0); omega) dX5_oneTick_163 ?_
          refine r_max C0 hl.1 wML_X5_70 (Nat.le_of_ble_eq_true rfl) (Nat.le_of_ble_eq_true rfl) (by show kN σ - k0 ≤ kf - k0; omega) (by show 4 * (kN σ - k0) ≤ 4 * (kf - k0); omega) dX5_oneTick_166 ?_
          refine r_min C0 hl.1 wML_X5_61 (Nat.le_of_ble_eq_true rfl) (Nat.le_of_ble_eq_true rfl) (by show kN σ - k0 ≤ kf - k0; omega) (by show 4 * (kN σ - k0) ≤ 4 * (kf - k0); omega) dX5_oneTick_169 ?_
          refine lv_istore_n (lv' := [(3, .int (mnI z15.1 (mxI 1 (mnI 400 ((z39.1 * z15.1) / (200 * z40.1)))))), (2, .int z15.1), (0, .ref (h.2.2 20 0)), (1, .int v1)]) hx hb dX5_oneTick_172 rfl hl (by decide) rfl (fun ls hl => ?_)
          refine lv_aload_n hx hb dX5_oneTick_173 rfl (lv_at hl 2 rfl) ?_
          refine get20 C0 hK hW 0 (al20 h 20 (by decide)) 4 (by decide) wFL_X5_9 rfl rfl dX5_oneTick_174 ?_
          refine lv_iconst (v := 5) hx hb dX5_oneTick_177 (by decide) ?_
          refine lv_iload_n hx hb dX5_oneTick_178 rfl (lv_at hl 3 rfl) ?_
          refine lv_imul hx hb dX5_oneTick_179 ?_
          refine lv_iconst (v := 3) hx hb dX5_oneTick_180 (by decide) ?_
          refine lv_iadd hx hb dX5_oneTick_181 ?_
          refine lv_iload_n hx hb dX5_oneTick_182 rfl (lv_at hl 0 rfl) ?_
          obtain ⟨hg, hF⟩ := grd hF
          refine ast C0 hK hW hS 21 0 (al20 h 21 (by decide)) (by decide) hg dX5_oneTick_183 (fun H locs hW hS => ?_)
          refine lv_iload_n hx hb dX5_oneTick_184 rfl (lv_at hl 0 rfl) ?_
          refine lv_if_ne (tgt := 191) hx hb dX5_oneTick_185 (by decide) (fun c41 => ?_) (fun c41 => ?_)
          · rw [if_neg c41] at hF
            refine lv_aload_n hx hb dX5_oneTick_191 rfl (lv_at hl 2 rfl) ?_
            refine get20 C0 hK hW 0 (al20 h 20 (by decide)) 4 (by decide) wFL_X5_9 rfl rfl dX5_oneTick_192 ?_
            refine lv_iconst (v := 5) hx hb dX5_oneTick_195 (by decide) ?_
            refine lv_iload_n hx hb dX5_oneTick_196 rfl (lv_at hl 3 rfl) ?_
            refine lv_imul hx hb dX5_oneTick_197 ?_
            refine lv_iconst (v := 1) hx hb dX5_oneTick_198 (by decide) ?_
            refine lv_iadd hx hb dX5_oneTick_199 ?_
            refine lv_dup2_11 hx hb dX5_oneTick_200 rfl rfl ?_
            obtain ⟨hg, hF⟩ := grd hF
            refine ald C0 hK hW 21 0 (al20 h 21 (by decide)) (by decide) hg dX5_oneTick_201 ?_
            refine lv_iload_n hx hb dX5_oneTick_202 rfl (lv_at hl 0 rfl) ?_
            refine lv_isub hx hb dX5_oneTick_203 ?_
            obtain ⟨hg, hF⟩ := grd hF
            refine ast C0 hK hW hS 21 0 (al20 h 21 (by decide)) (by decide) hg dX5_oneTick_204 (fun H locs hW hS => ?_)
            refine lv_aload_n hx hb dX5_oneTick_205 rfl (lv_at hl 2 rfl) ?_
            refine get20 C0 hK hW 0 (al20 h 20 (by decide)) 4 (by decide) wFL_X5_9 rfl rfl dX5_oneTick_206 ?_
            refine lv_iconst (v := 5) hx hb dX5_oneTick_209 (by decide) ?_
            refine lv_iload_n hx hb dX5_oneTick_210 rfl (lv_at hl 3 rfl) ?_
            refine lv_imul hx hb dX5_oneTick_211 ?_
            refine lv_iconst (v := 2) hx hb dX5_oneTick_212 (by decide) ?_
            refine lv_iadd hx hb dX5_oneTick_213 ?_
            refine lv_dup2_11 hx hb dX5_oneTick_214 rfl rfl ?_
            obtain ⟨hg, hF⟩ := grd hF
            refine ald C0 hK hW 21 0 (al20 h 21 (by decide)) (by decide) hg dX5_oneTick_215 ?_
            refine lv_iload_n hx hb dX5_oneTick_216 rfl (lv_at hl 0 rfl) ?_
            refine lv_iadd hx hb dX5_oneTick_217 ?_
            obtain ⟨hg, hF⟩ := grd hF
            refine ast C0 hK hW hS 21 0 (al20 h 21 (by decide)) (by decide) hg dX5_oneTick_218 (fun H locs hW hS => ?_)
            refine lv_iconst (v := 0) hx hb dX5_oneTick_219 (by decide) ?_
            refine lv_istore (lv' := [(4, .int 0), (3, .int (mnI z15.1 (mxI 1 (mnI 400 ((z39.1 * z15.1) / (200 * z40.1)))))), (2, .int z15.1), (0, .ref (h.2.2 20 0)), (1, .int v1)]) hx hb dX5_oneTick_220 hl (by decide) rfl (fun ls hl => ?_)
            obtain ⟨z42, hz42, hF⟩ := bnd hF
            obtain ⟨hg45, hF⟩ := grp hF
            obtain ⟨hF, hp44⟩ := pst hF
            have hq44 : kN z42 ≤ kN z := hp44
            clear hp44
            refine W.widen (k := kN (sI (sI (sI z40.2 21 0 ((5 * v1) + 3).toNatClampNeg (mnI z15.1 (mxI 1 (mnI 400 ((z39.1 * z15.1) / (200 * z40.1)))))) 21 0 ((5 * v1) + 1).toNatClampNeg (((sI z40.2 21 0 ((5 * v1) + 3).toNatClampNeg (mnI z15.1 (mxI 1 (mnI 400 ((z39.1 * z15.1) / (200 * z40.1)))))).1 21 0 ((5 * v1) + 1).toNatClampNeg) - (mnI z15.1 (mxI 1 (mnI 400 ((z39.1 * z15.1) / (200 * z40.1))))))) 21 0 ((5 * v1) + 2).toNatClampNeg (((sI (sI z40.2 21 0 ((5 * v1) + 3).toNatClampNeg (mnI z15.1 (mxI 1 (mnI 400 ((z39.1 * z15.1) / (200 * z40.1)))))) 21 0 ((5 * v1) + 1).toNatClampNeg (((sI z40.2 21 0 ((5 * v1) + 3).toNatClampNeg (mnI z15.1 (mxI 1 (mnI 400 ((z39.1 * z15.1) / (200 * z40.1)))))).1 21 0 ((5 * v1) + 1).toNatClampNeg) - (mnI z15.1 (mxI 1 (mnI 400 ((z39.1 * z15.1) / (200 * z40.1))))))).1 21 0 ((5 * v1) + 2).toNatClampNeg) + (mnI z15.1 (mxI 1 (mnI 400 ((z39.1 * z15.1) / (200 * z40.1))))))) - k0) (n := 4 * (kN (sI (sI (sI z40.2 21 0 ((5 * v1) + 3).toNatClampNeg (mnI z15.1 (mxI 1 (mnI 400 ((z39.1 * z15.1) / (200 * z40.1)))))) 21 0 ((5 * v1) + 1).toNatClampNeg (((sI z40.2 21 0 ((5 * v1) + 3).toNatClampNeg (mnI z15.1 (mxI 1 (mnI 400 ((z39.1 * z15.1) / (200 * z40.1)))))).1 21 0 ((5 * v1) + 1).toNatClampNeg) - (mnI z15.1 (mxI 1 (mnI 400 ((z39.1 * z15.1) / (200 * z40.1))))))) 21 0 ((5 * v1) + 2).toNatClampNeg (((sI (sI z40.2 21 0 ((5 * v1) + 3).toNatClampNeg (mnI z15.1 (mxI 1 (mnI 400 ((z39.1 * z15.1) / (200 * z40.1)))))) 21 0 ((5 * v1) + 1).toNatClampNeg (((sI z40.2 21 0 ((5 * v1) + 3).toNatClampNeg (mnI z15.1 (mxI 1 (mnI 400 ((z39.1 * z15.1) / (200 * z40.1)))))).1 21 0 ((5 * v1) + 1).toNatClampNeg) - (mnI z15.1 (mxI 1 (mnI 400 ((z39.1 * z15.1) / (200 * z40.1))))))).1 21 0 ((5 * v1) + 2).toNatClampNeg) + (mnI z15.1 (mxI 1 (mnI 400 ((z39.1 * z15.1) / (200 * z40.1))))))) - k0)) (by omega) (by omega) ?_
            refine lX5_oneTick_222 (k0 := k0) (kf := kf) C0 hlo hK hZ v1  _ 0 _ z42 hz42 (by omega) (by omega) (by omega) _ _ _ hW hS (lv_sub hl [3, 4, 0] rfl) (fun H locs ls hW hS hl => ?_)
            refine lv_iinc (v := v1 + 1) (lv' := [(1, .int (v1 + 1)), (0, .ref (h.2.2 20 0))]) hx hb dX5_oneTick_266 hl (k := 1) rfl rfl (by decide) rfl (fun ls hl => ?_)
            refine lv_goto (tgt := 107) hx hb dX5_oneTick_269 (by decide) ?_
            obtain ⟨hF, hp43⟩ := pst hF
            have hq43 : kN z42 ≤ kN z := hp43
            clear hp43
            refine W.widen (k := kN z42 - k0) (n := 4 * (kN z42 - k0)) (by omega) (by omega) ?_
            exact ih (v1 + 1) z42 z hF (by omega) (by omega) (by omega) _ _ _ hW hS (lv_sub hl [1, 0] rfl) kk
          · rw [if_pos c41] at hF
            refine lv_goto (tgt := 266) hx hb dX5_oneTick_188 (by decide) ?_
            refine lv_iinc (v := v1 + 1) (lv' := [(1, .int (v1 + 1)), (3, .int (mnI z15.1 (mxI 1 (mnI 400 ((z39.1 * z15.1) / (200 * z40.1)))))), (2, .int z15.1), (0, .ref (h.2.2 20 0))]) hx hb dX5_oneTick_266 hl (k := 3) rfl rfl (by decide) rfl (fun ls hl => ?_)
            refine lv_goto (tgt := 107) hx hb dX5_oneTick_269 (by decide) ?_
            obtain ⟨hg47, hF⟩ := grp hF
            obtain ⟨hF, hp46⟩ := pst hF
            have hq46 : kN (sI z40.2 21 0 ((5 * v1) + 3).toNatClampNeg (mnI z15.1 (mxI 1 (mnI 400 ((z39.1 * z15.1) / (200 * z40.1)))))) ≤ kN z := hp46
            clear hp46
            refine W.widen (k := kN (sI z40.2 21 0 ((5 * v1) + 3).toNatClampNeg (mnI z15.1 (mxI 1 (mnI 400 ((z39.1 * z15.1) / (200 * z40.1)))))) - k0) (n := 4 * (kN (sI z40.2 21 0 ((5 * v1) + 3).toNatClampNeg (mnI z15.1 (mxI 1 (mnI 400 ((z39.1 * z15.1) / (200 * z40.1)))))) - k0)) (by omega) (by omega) ?_
            exact ih (v1 + 1) (sI z40.2 21 0 ((5 * v1) + 3).toNatClampNeg (mnI z15.1 (mxI 1 (mnI 400 ((z39.1 * z15.1) / (200 * z40.1)))))) z hF (by omega) (by omega) (by omega) _ _ _ hW hS (lv_sub hl [3, 0] rfl) kk
        · rw [if_pos c38] at hF
          refine lv_iconst (v := 0) hx hb dX5_oneTick_136 (by decide) ?_
          refine lv_goto (tgt := 172) hx hb dX5_oneTick_137 (by decide) ?_
          refine lv_istore_n (lv' := [(3, .int 0), (2, .int z15.1), (0, .ref (h.2.2 20 0)), (1, .int v1)]) hx hb dX5_oneTick_172 rfl hl (by decide) rfl (fun ls hl => ?_)
          refine lv_aload_n hx hb dX5_oneTick_173 rfl (lv_at hl 2 rfl) ?_
          refine get20 C0 hK hW 0 (al20 h 20 (by decide)) 4 (by decide) wFL_X5_9 rfl rfl dX5_oneTick_174 ?_
          refine lv_iconst (v := 5) hx hb dX5_oneTick_177 (by decide) ?_
          refine lv_iload_n hx hb dX5_oneTick_178 rfl (lv_at hl 3 rfl) ?_
          refine lv_imul hx hb dX5_oneTick_179 ?_
          refine lv_iconst (v := 3) hx hb dX5_oneTick_180 (by decide) ?_
          refine lv_iadd hx hb dX5_oneTick_181 ?_
          refine lv_iload_n hx hb dX5_oneTick_182 rfl (lv_at hl 0 rfl) ?_
          obtain ⟨hg, hF⟩ := grd hF
          refine ast C0 hK hW hS 21 0 (al20 h 21 (by decide)) (by decide) hg dX5_oneTick_183 (fun H locs hW hS => ?_)
          refine lv_iload_n hx hb dX5_oneTick_184 rfl (lv_at hl 0 rfl) ?_
          refine lv_if_ne (tgt := 191) hx hb dX5_oneTick_185 (by decide) (fun c48 => absurd (by decide) c48) (fun _ => ?_)
          refine lv_goto (tgt := 266) hx hb dX5_oneTick_188 (by decide) ?_
          refine lv_iinc (v := v1 + 1) (lv' := [(1, .int (v1 + 1)), (3, .int 0), (2, .int z15.1), (0, .ref (h.2.2 20 0))]) hx hb dX5_oneTick_266 hl (k := 3) rfl rfl (by decide) rfl (fun ls hl => ?_)
          refine lv_goto (tgt := 107) hx hb dX5_oneTick_269 (by decide) ?_
          obtain ⟨hg54, hF⟩ := grp hF
          obtain ⟨hF, hp53⟩ := pst hF
          have hq53 : kN (sI z16.2 21 0 ((5 * v1) + 3).toNatClampNeg 0) ≤ kN z := hp53
          clear hp53
          refine W.widen (k := kN (sI z16.2 21 0 ((5 * v1) + 3).toNatClampNeg 0) - k0) (n := 4 * (kN (sI z16.2 21 0 ((5 * v1) + 3).toNatClampNeg 0) - k0)) (by omega) (by omega) ?_
          exact ih (v1 + 1) (sI z16.2 21 0 ((5 * v1) + 3).toNatClampNeg 0) z hF (by omega) (by omega) (by omega) _ _ _ hW hS (lv_sub hl [3, 0] rfl) kk
set_option maxHeartbeats 4000000 in
set_option maxRecDepth 100000 in
theorem kX5_oneTick (l : Launch) (lo : Nat) (g : Gx) (h : Sh) (σ : Sg)   (σ1 : Sg) (hF : FX5_oneTick h.1 h.2.1 σ  = some σ1) : MV l yX5_oneTick (ws_ yX5_oneTick cX5_oneTick 5 none) 3 112 (kN σ1 - kN σ) (4 * (kN σ1 - kN σ)) lo g h [.ref (h.2.2 20 0)] σ σ1 := by
  refine ofB (own := RX5) (by decide +kernel) rfl (fun p e s m below meth c C0 hr hlk hlo hK hZ hW hS ls hl => ?_) (Nat.le_of_ble_eq_true rfl)
  have hx := C0.1
  have hb := C0.2.1
  have hl : lv_has ls 5 [(0, .ref (h.2.2 20 0))] := hl
  unfold FX5_oneTick at hF
  obtain ⟨hF, hp60⟩ := pst hF
  have hq60 : kN σ ≤ kN σ1 := hp60
  clear hp60
  refine W.widen (k := kN σ - kN σ) (n := 4 * (kN σ - kN σ)) (by omega) (by omega) ?_
  refine lv_aload_n hx hb dX5_oneTick_0 rfl (lv_at hl 0 rfl) ?_
  refine lv_dup hx hb dX5_oneTick_1 rfl ?_
  refine get20 C0 hK hW 0 (al20 h 20 (by decide)) 1 (by decide) wFL_X5_122 rfl rfl dX5_oneTick_2 ?_
  refine lv_iconst (v := 1) hx hb dX5_oneTick_5 (by decide) ?_
  refine lv_iadd hx hb dX5_oneTick_6 ?_
  refine put20_1 C0 hK hW hS 0 (al20 h 20 (by decide)) wFL_X5_122 dX5_oneTick_7 (fun H locs hW hS => ?_)
  refine lv_iconst (v := 0) hx hb dX5_oneTick_10 (by decide) ?_
  refine lv_istore_n (lv' := [(1, .int 0), (0, .ref (h.2.2 20 0))]) hx hb dX5_oneTick_11 rfl hl (by decide) rfl (fun ls hl => ?_)
  obtain ⟨z13, hz13, hF⟩ := bnd hF
  obtain ⟨hg59, hF⟩ := grp hF
  obtain ⟨hF, hp58⟩ := pst hF
  have hq58 : kN z13 ≤ kN σ1 := hp58
  clear hp58
  refine W.widen (k := kN (sI σ 20 0 1 ((σ.1 20 0 1) + 1)) - (kN σ)) (n := 4 * (kN (sI σ 20 0 1 ((σ.1 20 0 1) + 1)) - (kN σ))) (by omega) (by omega) ?_
  refine lX5_oneTick_12 (k0 := (kN σ)) (kf := (kN σ1)) C0 hlo hK hZ   _ 0 _ z13 hz13 (by omega) (by omega) (by omega) _ _ _ hW hS (lv_sub hl [1, 0] rfl) (fun H locs ls hW hS hl => ?_)
  refine lv_iconst (v := 0) hx hb dX5_oneTick_105 (by decide) ?_
  refine lv_istore_n (lv' := [(1, .int 0), (0, .ref (h.2.2 20 0))]) hx hb dX5_oneTick_106 rfl hl (by decide) rfl (fun ls hl => ?_)
  obtain ⟨z55, hz55, hF⟩ := bnd hF
  obtain ⟨hg57, hF⟩ := grp hF
  obtain ⟨hF, hp56⟩ := pst hF
  have hq56 : kN z55 ≤ kN σ1 := hp56
  clear hp56
  refine W.widen (k := kN z13 - (kN σ)) (n := 4 * (kN z13 - (kN σ))) (by omega) (by omega) ?_
  refine lX5_oneTick_107 (k0 := (kN σ)) (kf := (kN σ1)) C0 hlo hK hZ   _ 0 _ z55 hz55 (by omega) (by omega) (by omega) _ _ _ hW hS (lv_sub hl [1, 0] rfl) (fun H locs ls hW hS hl => ?_)
  refine W.widen (k := kN σ1 - kN σ) (n := 4 * (kN σ1 - kN σ)) (by omega) (by omega) ?_
  cases hF
  exact retV C0 hr hlk hW hS dX5_oneTick_272
theorem hdX5_run : yX5_run.cls = RX5 ∧ yX5_run.cls ≠ "java/lang/invoke/MethodHandle" ∧ yX5_run.cls ≠ "java/lang/invoke/VarHandle" ∧ (parseMethodDescriptor yX5_run.desc).map (fun d => d.parameters.length) = some 1 := by decide +kernel
def LX5_run_29 (ns nb : Nat) (v1 : Int32) (v2 : Int32) : Nat → Int32 → Sg → Option (Sg)
  | 0, _, _ => none
  | n + 1, v3, σ => if v1 ≤ v3 then (some (σ)) else ((FX5_oneTick ns nb σ ).bind fun z4 => if (kN σ ≤ kN σ ∧ kN σ ≤ kN z4) then (((((LX5_run_29 ns nb v1 v2 n (v3 + 1) z4).bind fun r => if kN z4 ≤ kN r then some r else none)).bind fun r => if kN z4 ≤ kN r then some r else none)) else none)
def FX5_run (ns nb : Nat) (σ : Sg) (a1 : Int32) : Option (Int32 × Sg) :=
  (((FX5_isIn ns nb (sI σ 20 0 0 0) a1 1 500).bind fun z1 => if z1.1 = 0 then ((FX5_fail ns nb z1.2 1).bind fun z11 => some (z11.1, z11.2)) else ((LX5_run_29 ns nb a1 (z1.2.1 20 0 10) 4100 0 z1.2).bind fun z8 => if (kN σ ≤ kN z1.2 ∧ kN z1.2 ≤ kN z8) then (((some ((z8.1 20 0 10) - (z1.2.1 20 0 10), z8)).bind fun r => if kN z8 ≤ kN r.2 then some r else none)) else none)).bind fun r => if kN σ ≤ kN r.2 then some r else none)
set_option maxHeartbeats 4000000 in
set_option maxRecDepth 100000 in
theorem lX5_run_29 {p : Program} {l : Launch} {e : Env} {s : State} {m : MethodId} {args : Array Value} {below : List Frame} {meth : Method} {c : Code} {Q : State → Prop} {lo : Nat} {g : Gx} {h : Sh} {k0 kf : Nat} (C0 : CallFix p m c cX5_run 4 s args wB RX5) (hlo : lo ≤ s.heap.size) (hK : KW g s) (hZ : ZW lo s s.heap) (v1 : Int32) (v2 : Int32)  : ∀ (n : Nat) (v3 : Int32) (σ : Sg) (z : (Sg)) (hF : LX5_run_29 h.1 h.2.1 v1 v2 n v3 σ = some z) (hk0 : k0 ≤ kN σ) (hkz : kN σ ≤ kN z) (hkf : kN z ≤ kf) (H : Heap) (locs : List Loc) (ls : Array Slot) (hW : FW g h (Ax lo) σ H) (hS : va_S (Ax lo) s.heap H locs) (hl : lv_has ls 4 [(0, .ref (h.2.2 20 0)), (1, .int v1), (2, .int v2), (3, .int v3)]) (kk : ∀ (H : Heap) (locs : List Loc) (ls : Array Slot), FW g h (Ax lo) z H → va_S (Ax lo) s.heap H locs → lv_has ls 4 [(0, .ref (h.2.2 20 0)), (2, .int v2)] → W p l e { frames := 4, cells := kf - k0, slots := 4 * (kf - k0), locals := 136 } s m args below meth c H locs (kN z - k0) (4 * (kN z - k0)) Q (F0 m 44 ls [])), W p l e { frames := 4, cells := kf - k0, slots := 4 * (kf - k0), locals := 136 } s m args below meth c H locs (kN σ - k0) (4 * (kN σ - k0)) Q (F0 m 29 ls []) := by
  have hx := C0.1
  have hb := C0.2.1
  intro n
  induction n with
  | zero =>
    intro v3 σ z hF
    rw [LX5_run_29] at hF
    cases hF
  | succ n ih =>
    intro v3 σ z hF hk0 hkz hkf H locs ls hW hS hl kk
    rw [LX5_run_29] at hF
    refine lv_iload_n hx hb dX5_run_29 rfl (lv_at hl 3 rfl) ?_
    refine lv_iload_n hx hb dX5_run_30 rfl (lv_at hl 1 rfl) ?_
    refine lv_icmp_ge (tgt := 44) hx hb dX5_run_31 (by decide) (fun c3 => ?_) (fun c3 => ?_)
    · rw [if_pos c3] at hF
      cases hF
      exact kk _ _ _ hW hS (lv_sub hl [0, 2] rfl)
    · rw [if_neg c3] at hF
      refine lv_aload_n hx hb dX5_run_34 rfl (lv_at hl 0 rfl) ?_
      obtain ⟨z4, hz4, hF⟩ := bnd hF
      obtain ⟨hg7, hF⟩ := grp hF
      obtain ⟨hF, hp6⟩ := pst hF
      have hq6 : kN z4 ≤ kN z := hp6
      clear hp6
      refine W.widen (k := kN σ - k0) (n := 4 * (kN σ - k0)) (by omega) (by omega) ?_
      refine inV (runV C0 hlo hK hZ hW hS (kX5_oneTick l lo g h _   _ hz4) wCO_X5_oneTick wML_X5_135 wIM_X5_oneTick wSE_X5_X5_oneTick wIN_X5 hdX5_oneTick ⟨Nat.le_of_ble_eq_true rfl, Nat.le_of_ble_eq_true rfl⟩ (recvK hK hW (al20 h 20 (by decide)) (ct20 0) rfl) rfl hl.1 rfl (Nat.le_of_ble_eq_true rfl) dX5_run_35 ⟨by show kN σ - k0 + (kN z4 - kN σ) ≤ kf - k0; omega, by show 4 * (kN σ - k0) + 4 * (kN z4 - kN σ) ≤ 4 * (kf - k0); omega⟩) hS (fun H locs hW hS => ?_)
      refine W.widen (k := kN z4 - k0) (n := 4 * (kN z4 - k0)) (by omega) (by omega) ?_
      refine lv_iinc (v := v3 + 1) (lv' := [(3, .int (v3 + 1)), (0, .ref (h.2.2 20 0)), (1, .int v1), (2, .int v2)]) hx hb dX5_run_38 hl (k := 3) rfl rfl (by decide) rfl (fun ls hl => ?_)
      refine lv_goto (tgt := 29) hx hb dX5_run_41 (by decide) ?_
      obtain ⟨hF, hp5⟩ := pst hF
      have hq5 : kN z4 ≤ kN z := hp5
      clear hp5
      refine W.widen (k := kN z4 - k0) (n := 4 * (kN z4 - k0)) (by omega) (by omega) ?_
      exact ih (v3 + 1) z4 z hF (by omega) (by omega) (by omega) _ _ _ hW hS (lv_sub hl [1, 2, 3, 0] rfl) kk
set_option maxHeartbeats 4000000 in
set_option maxRecDepth 100000 in
theorem kX5_run (l : Launch) (lo : Nat) (g : Gx) (h : Sh) (σ : Sg) (a1 : Int32)  (r : Int32) (σ1 : Sg) (hF : FX5_run h.1 h.2.1 σ a1 = some (r, σ1)) : MI l yX5_run (ws_ yX5_run cX5_run 4 (some .int)) 4 136 (kN σ1 - kN σ) (4 * (kN σ1 - kN σ)) lo g h [.ref (h.2.2 20 0), .int a1] σ r σ1 := by
  refine ofB (own := RX5) (by decide +kernel) rfl (fun p e s m below meth c C0 hr hlk hlo hK hZ hW hS ls hl => ?_) (Nat.le_of_ble_eq_true rfl)
  have hx := C0.1
  have hb := C0.2.1
  have hl : lv_has ls 4 [(0, .ref (h.2.2 20 0)), (1, .int a1)] := hl
  unfold FX5_run at hF
  obtain ⟨hF, hp12⟩ := pst hF
  have hq12 : kN σ ≤ kN σ1 := hp12
  clear hp12
  refine W.widen (k := kN σ - kN σ) (n := 4 * (kN σ - kN σ)) (by omega) (by omega) ?_
  refine lv_aload_n hx hb dX5_run_0 rfl (lv_at hl 0 rfl) ?_
  refine lv_iconst (v := 0) hx hb dX5_run_1 (by decide) ?_
  refine put20_0 C0 hK hW hS 0 (al20 h 20 (by decide)) wFL_X5_38 dX5_run_2 (fun H locs hW hS => ?_)
  refine lv_iload_n hx hb dX5_run_5 rfl (lv_at hl 1 rfl) ?_
  refine lv_iconst (v := 1) hx hb dX5_run_6 (by decide) ?_
  refine lv_sipush (v := 500) hx hb dX5_run_7 (by decide) ?_
  obtain ⟨z1, hz1, hF⟩ := bnd hF
  refine inI (runS C0 hlo hK hZ hW hS (kX5_isIn l lo g h _ a1 1 500  _ _ hz1) wCO_X5_isIn wML_X5_45 wST_X5_isIn wIN_X5 hdsX5_isIn ⟨Nat.le_of_ble_eq_true rfl, Nat.le_of_ble_eq_true rfl⟩ rfl hl.1 rfl (Nat.le_of_ble_eq_true rfl) dX5_run_10 ⟨by show kN σ - kN σ + 0 ≤ (kN σ1) - (kN σ); omega, by show 4 * (kN σ - kN σ) + 0 ≤ 4 * ((kN σ1) - (kN σ)); omega⟩) hS (fun H locs hW hS => ?_)
  refine lv_if_ne (tgt := 22) hx hb dX5_run_13 (by decide) (fun c2 => ?_) (fun c2 => ?_)
  · rw [if_neg c2] at hF
    refine lv_aload_n hx hb dX5_run_22 rfl (lv_at hl 0 rfl) ?_
    refine get20 C0 hK hW 0 (al20 h 20 (by decide)) 10 (by decide) wFL_X5_116 rfl rfl dX5_run_23 ?_
    refine lv_istore_n (lv' := [(2, .int (z1.2.1 20 0 10)), (0, .ref (h.2.2 20 0)), (1, .int a1)]) hx hb dX5_run_26 rfl hl (by decide) rfl (fun ls hl => ?_)
    refine lv_iconst (v := 0) hx hb dX5_run_27 (by decide) ?_
    refine lv_istore_n (lv' := [(3, .int 0), (2, .int (z1.2.1 20 0 10)), (0, .ref (h.2.2 20 0)), (1, .int a1)]) hx hb dX5_run_28 rfl hl (by decide) rfl (fun ls hl => ?_)
    obtain ⟨z8, hz8, hF⟩ := bnd hF
    obtain ⟨hg10, hF⟩ := grp hF
    obtain ⟨hF, hp9⟩ := pst hF
    have hq9 : kN z8 ≤ kN σ1 := hp9
    clear hp9
    refine W.widen (k := kN z1.2 - (kN σ)) (n := 4 * (kN z1.2 - (kN σ))) (by omega) (by omega) ?_
    refine lX5_run_29 (k0 := (kN σ)) (kf := (kN σ1)) C0 hlo hK hZ a1 (z1.2.1 20 0 10)  _ 0 _ z8 hz8 (by omega) (by omega) (by omega) _ _ _ hW hS (lv_sub hl [2, 3, 1, 0] rfl) (fun H locs ls hW hS hl => ?_)
    refine lv_aload_n hx hb dX5_run_44 rfl (lv_at hl 0 rfl) ?_
    refine get20 C0 hK hW 0 (al20 h 20 (by decide)) 10 (by decide) wFL_X5_116 rfl rfl dX5_run_45 ?_
    refine lv_iload_n hx hb dX5_run_48 rfl (lv_at hl 1 rfl) ?_
    refine lv_isub hx hb dX5_run_49 ?_
    refine W.widen (k := kN σ1 - kN σ) (n := 4 * (kN σ1 - kN σ)) (by omega) (by omega) ?_
    cases hF
    exact retI C0 hr hlk hW hS dX5_run_50
  · rw [if_pos c2] at hF
    refine lv_aload_n hx hb dX5_run_16 rfl (lv_at hl 0 rfl) ?_
    refine lv_iconst (v := 1) hx hb dX5_run_17 (by decide) ?_
    obtain ⟨z11, hz11, hF⟩ := bnd hF
    refine inI (runV C0 hlo hK hZ hW hS (kX5_fail l lo g h _ 1  _ _ hz11) wCO_X5_fail wML_X5_52 wIM_X5_fail wSE_X5_X5_fail wIN_X5 hdX5_fail ⟨Nat.le_of_ble_eq_true rfl, Nat.le_of_ble_eq_true rfl⟩ (recvK hK hW (al20 h 20 (by decide)) (ct20 0) rfl) rfl hl.1 rfl (Nat.le_of_ble_eq_true rfl) dX5_run_18 ⟨by show kN σ - kN σ + 0 ≤ (kN σ1) - (kN σ); omega, by show 4 * (kN σ - kN σ) + 0 ≤ 4 * ((kN σ1) - (kN σ)); omega⟩) hS (fun H locs hW hS => ?_)
    refine W.widen (k := kN σ1 - kN σ) (n := 4 * (kN σ1 - kN σ)) (by omega) (by omega) ?_
    cases hF
    exact retI C0 hr hlk hW hS dX5_run_21
theorem hdX5_runsDown : yX5_runsDown.cls = RX5 ∧ yX5_runsDown.cls ≠ "java/lang/invoke/MethodHandle" ∧ yX5_runsDown.cls ≠ "java/lang/invoke/VarHandle" ∧ (parseMethodDescriptor yX5_runsDown.desc).map (fun d => d.parameters.length) = some 1 := by decide +kernel
def LX5_runsDown_62 (ns nb : Nat) (v1 : Int32) (v2 : Int32) : Nat → Sg → Option (Sg)
  | 0, _ => none
  | n + 1, σ => (FX5_isDown ns nb σ ).bind fun z3 => if z3.1 = 0 then (if (v2 + v1) ≤ (z3.2.1 20 0 1) then (if (kN σ ≤ kN z3.2) then (some (z3.2)) else none) else ((FX5_oneTick ns nb z3.2 ).bind fun z8 => if (kN σ ≤ kN z3.2 ∧ kN z3.2 ≤ kN z8) then (((((LX5_runsDown_62 ns nb v1 v2 n  z8).bind fun r => if kN z8 ≤ kN r then some r else none)).bind fun r => if kN z8 ≤ kN r then some r else none)) else none)) else (if (kN σ ≤ kN z3.2) then (some (z3.2)) else none)
def FX5_runsDown (ns nb : Nat) (σ : Sg) (a1 : Int32) : Option (Int32 × Sg) :=
  (((FX5_isIn ns nb (sI σ 20 0 0 0) a1 1 2000).bind fun z1 => if z1.1 = 0 then ((FX5_fail ns nb z1.2 1).bind fun z17 => some (z17.1, z17.2)) else ((LX5_runsDown_62 ns nb a1 ((sC (sC z1.2 28 (va_cpy (z1.2.1 21 0) (z1.2.1 28 0) (0 : Int32).toNatClampNeg (0 : Int32).toNatClampNeg (20 : Int32).toNatClampNeg)) 29 (va_cpy ((sC z1.2 28 (va_cpy (z1.2.1 21 0) (z1.2.1 28 0) (0 : Int32).toNatClampNeg (0 : Int32).toNatClampNeg (20 : Int32).toNatClampNeg)).1 22 0) ((sC z1.2 28 (va_cpy (z1.2.1 21 0) (z1.2.1 28 0) (0 : Int32).toNatClampNeg (0 : Int32).toNatClampNeg (20 : Int32).toNatClampNeg)).1 29 0) (0 : Int32).toNatClampNeg (0 : Int32).toNatClampNeg (88 : Int32).toNatClampNeg)).1 20 0 1) 4100  (sI (sC (sC z1.2 28 (va_cpy (z1.2.1 21 0) (z1.2.1 28 0) (0 : Int32).toNatClampNeg (0 : Int32).toNatClampNeg (20 : Int32).toNatClampNeg)) 29 (va_cpy ((sC z1.2 28 (va_cpy (z1.2.1 21 0) (z1.2.1 28 0) (0 : Int32).toNatClampNeg (0 : Int32).toNatClampNeg (20 : Int32).toNatClampNeg)).1 22 0) ((sC z1.2 28 (va_cpy (z1.2.1 21 0) (z1.2.1 28 0) (0 : Int32).toNatClampNeg (0 : Int32).toNatClampNeg (20 : Int32).toNatClampNeg)).1 29 0) (0 : Int32).toNatClampNeg (0 : Int32).toNatClampNeg (88 : Int32).toNatClampNeg)) 20 0 13 1)).bind fun z12 => if (kN σ ≤ kN (sI (sC (sC z1.2 28 (va_cpy (z1.2.1 21 0) (z1.2.1 28 0) (0 : Int32).toNatClampNeg (0 : Int32).toNatClampNeg (20 : Int32).toNatClampNeg)) 29 (va_cpy ((sC z1.2 28 (va_cpy (z1.2.1 21 0) (z1.2.1 28 0) (0 : Int32).toNatClampNeg (0 : Int32).toNatClampNeg (20 : Int32).toNatClampNeg)).1 22 0) ((sC z1.2 28 (va_cpy (z1.2.1 21 0) (z1.2.1 28 0) (0 : Int32).toNatClampNeg (0 : Int32).toNatClampNeg (20 : Int32).toNatClampNeg)).1 29 0) (0 : Int32).toNatClampNeg (0 : Int32).toNatClampNeg (88 : Int32).toNatClampNeg)) 20 0 13 1) ∧ kN (sI (sC (sC z1.2 28 (va_cpy (z1.2.1 21 0) (z1.2.1 28 0) (0 : Int32).toNatClampNeg (0 : Int32).toNatClampNeg (20 : Int32).toNatClampNeg)) 29 (va_cpy ((sC z1.2 28 (va_cpy (z1.2.1 21 0) (z1.2.1 28 0) (0 : Int32).toNatClampNeg (0 : Int32).toNatClampNeg (20 : Int32).toNatClampNeg)).1 22 0) ((sC z1.2 28 (va_cpy (z1.2.1 21 0) (z1.2.1 28 0) (0 : Int32).toNatClampNeg (0 : Int32).toNatClampNeg (20 : Int32).toNatClampNeg)).1 29 0) (0 : Int32).toNatClampNeg (0 : Int32).toNatClampNeg (88 : Int32).toNatClampNeg)) 20 0 13 1) ≤ kN z12) then ((((FX5_isDown ns nb z12 ).bind fun z13 => if z13.1 = 0 then (some ((-1), (sC (sC (sI (sI z13.2 20 0 13 0) 20 0 1 ((sC (sC z1.2 28 (va_cpy (z1.2.1 21 0) (z1.2.1 28 0) (0 : Int32).toNatClampNeg (0 : Int32).toNatClampNeg (20 : Int32).toNatClampNeg)) 29 (va_cpy ((sC z1.2 28 (va_cpy (z1.2.1 21 0) (z1.2.1 28 0) (0 : Int32).toNatClampNeg (0 : Int32).toNatClampNeg (20 : Int32).toNatClampNeg)).1 22 0) ((sC z1.2 28 (va_cpy (z1.2.1 21 0) (z1.2.1 28 0) (0 : Int32).toNatClampNeg (0 : Int32).toNatClampNeg (20 : Int32).toNatClampNeg)).1 29 0) (0 : Int32).toNatClampNeg (0 : Int32).toNatClampNeg (88 : Int32).toNatClampNeg)).1 20 0 1)) 21 (va_cpy ((sI (sI z13.2 20 0 13 0) 20 0 1 ((sC (sC z1.2 28 (va_cpy (z1.2.1 21 0) (z1.2.1 28 0) (0 : Int32).toNatClampNeg (0 : Int32).toNatClampNeg (20 : Int32).toNatClampNeg)) 29 (va_cpy ((sC z1.2 28 (va_cpy (z1.2.1 21 0) (z1.2.1 28 0) (0 : Int32).toNatClampNeg (0 : Int32).toNatClampNeg (20 : Int32).toNatClampNeg)).1 22 0) ((sC z1.2 28 (va_cpy (z1.2.1 21 0) (z1.2.1 28 0) (0 : Int32).toNatClampNeg (0 : Int32).toNatClampNeg (20 : Int32).toNatClampNeg)).1 29 0) (0 : Int32).toNatClampNeg (0 : Int32).toNatClampNeg (88 : Int32).toNatClampNeg)).1 20 0 1)).1 28 0) ((sI (sI z13.2 20 0 13 0) 20 0 1 ((sC (sC z1.2 28 (va_cpy (z1.2.1 21 0) (z1.2.1 28 0) (0 : Int32).toNatClampNeg (0 : Int32).toNatClampNeg (20 : Int32).toNatClampNeg)) 29 (va_cpy ((sC z1.2 28 (va_cpy (z1.2.1 21 0) (z1.2.1 28 0) (0 : Int32).toNatClampNeg (0 : Int32).toNatClampNeg (20 : Int32).toNatClampNeg)).1 22 0) ((sC z1.2 28 (va_cpy (z1.2.1 21 0) (z1.2.1 28 0) (0 : Int32).toNatClampNeg (0 : Int32).toNatClampNeg (20 : Int32).toNatClampNeg)).1 29 0) (0 : Int32).toNatClampNeg (0 : Int32).toNatClampNeg (88 : Int32).toNatClampNeg)).1 20 0 1)).1 21 0) (0 : Int32).toNatClampNeg (0 : Int32).toNatClampNeg (20 : Int32).toNatClampNeg)) 22 (va_cpy ((sC (sI (sI z13.2 20 0 13 0) 20 0 1 ((sC (sC z1.2 28 (va_cpy (z1.2.1 21 0) (z1.2.1 28 0) (0 : Int32).toNatClampNeg (0 : Int32).toNatClampNeg (20 : Int32).toNatClampNeg)) 29 (va_cpy ((sC z1.2 28 (va_cpy (z1.2.1 21 0) (z1.2.1 28 0) (0 : Int32).toNatClampNeg (0 : Int32).toNatClampNeg (20 : Int32).toNatClampNeg)).1 22 0) ((sC z1.2 28 (va_cpy (z1.2.1 21 0) (z1.2.1 28 0) (0 : Int32).toNatClampNeg (0 : Int32).toNatClampNeg (20 : Int32).toNatClampNeg)).1 29 0) (0 : Int32).toNatClampNeg (0 : Int32).toNatClampNeg (88 : Int32).toNatClampNeg)).1 20 0 1)) 21 (va_cpy ((sI (sI z13.2 20 0 13 0) 20 0 1 ((sC (sC z1.2 28 (va_cpy (z1.2.1 21 0) (z1.2.1 28 0) (0 : Int32).toNatClampNeg (0 : Int32).toNatClampNeg (20 : Int32).toNatClampNeg)) 29 (va_cpy ((sC z1.2 28 (va_cpy (z1.2.1 21 0) (z1.2.1 28 0) (0 : Int32).toNatClampNeg (0 : Int32).toNatClampNeg (20 : Int32).toNatClampNeg)).1 22 0) ((sC z1.2 28 (va_cpy (z1.2.1 21 0) (z1.2.1 28 0) (0 : Int32).toNatClampNeg (0 : Int32).toNatClampNeg (20 : Int32).toNatClampNeg)).1 29 0) (0 : Int32).toNatClampNeg (0 : Int32).toNatClampNeg (88 : Int32).toNatClampNeg)).1 20 0 1)).1 28 0) ((sI (sI z13.2 20 0 13 0) 20 0 1 ((sC (sC z1.2 28 (va_cpy (z1.2.1 21 0) (z1.2.1 28 0) (0 : Int32).toNatClampNeg (0 : Int32).toNatClampNeg (20 : Int32).toNatClampNeg)) 29 (va_cpy ((sC z1.2 28 (va_cpy (z1.2.1 21 0) (z1.2.1 28 0) (0 : Int32).toNatClampNeg (0 : Int32).toNatClampNeg (20 : Int32).toNatClampNeg)).1 22 0) ((sC z1.2 28 (va_cpy (z1.2.1 21 0) (z1.2.1 28 0) (0 : Int32).toNatClampNeg (0 : Int32).toNatClampNeg (20 : Int32).toNatClampNeg)).1 29 0) (0 : Int32).toNatClampNeg (0 : Int32).toNatClampNeg (88 : Int32).toNatClampNeg)).1 20 0 1)).1 21 0) (0 : Int32).toNatClampNeg (0 : Int32).toNatClampNeg (20 : Int32).toNatClampNeg)).1 29 0) ((sC (sI (sI z13.2 20 0 13 0) 20 0 1 ((sC (sC z1.2 28 (va_cpy (z1.2.1 21 0) (z1.2.1 28 0) (0 : Int32).toNatClampNeg (0 : Int32).toNatClampNeg (20 : Int32).toNatClampNeg)) 29 (va_cpy ((sC z1.2 28 (va_cpy (z1.2.1 21 0) (z1.2.1 28 0) (0 : Int32).toNatClampNeg (0 : Int32).toNatClampNeg (20 : Int32).toNatClampNeg)).1 22 0) ((sC z1.2 28 (va_cpy (z1.2.1 21 0) (z1.2.1 28 0) (0 : Int32).toNatClampNeg (0 : Int32).toNatClampNeg (20 : Int32).toNatClampNeg)).1 29 0) (0 : Int32).toNatClampNeg (0 : Int32).toNatClampNeg (88 : Int32).toNatClampNeg)).1 20 0 1)) 21 (va_cpy ((sI (sI z13.2 20 0 13 0) 20 0 1 ((sC (sC z1.2 28 (va_cpy (z1.2.1 21 0) (z1.2.1 28 0) (0 : Int32).toNatClampNeg (0 : Int32).toNatClampNeg (20 : Int32).toNatClampNeg)) 29 (va_cpy ((sC z1.2 28 (va_cpy (z1.2.1 21 0) (z1.2.1 28 0) (0 : Int32).toNatClampNeg (0 : Int32).toNatClampNeg (20 : Int32).toNatClampNeg)).1 22 0) ((sC z1.2 28 (va_cpy (z1.2.1 21 0) (z1.2.1 28 0) (0 : Int32).toNatClampNeg (0 : Int32).toNatClampNeg (20 : Int32).toNatClampNeg)).1 29 0) (0 : Int32).toNatClampNeg (0 : Int32).toNatClampNeg (88 : Int32).toNatClampNeg)).1 20 0 1)).1 28 0) ((sI (sI z13.2 20 0 13 0) 20 0 1 ((sC (sC z1.2 28 (va_cpy (z1.2.1 21 0) (z1.2.1 28 0) (0 : Int32).toNatClampNeg (0 : Int32).toNatClampNeg (20 : Int32).toNatClampNeg)) 29 (va_cpy ((sC z1.2 28 (va_cpy (z1.2.1 21 0) (z1.2.1 28 0) (0 : Int32).toNatClampNeg (0 : Int32).toNatClampNeg (20 : Int32).toNatClampNeg)).1 22 0) ((sC z1.2 28 (va_cpy (z1.2.1 21 0) (z1.2.1 28 0) (0 : Int32).toNatClampNeg (0 : Int32).toNatClampNeg (20 : Int32).toNatClampNeg)).1 29 0) (0 : Int32).toNatClampNeg (0 : Int32).toNatClampNeg (88 : Int32).toNatClampNeg)).1 20 0 1)).1 21 0) (0 : Int32).toNatClampNeg (0 : Int32).toNatClampNeg (20 : Int32).toNatClampNeg)).1 22 0) (0 : Int32).toNatClampNeg (0 : Int32).toNatClampNeg (88 : Int32).toNatClampNeg)))) else (some (z13.2.1 20 0 1, (sC (sC (sI (sI z13.2 20 0 13 0) 20 0 1 ((sC (sC z1.2 28 (va_cpy (z1.2.1 21 0) (z1.2.1 28 0) (0 : Int32).toNatClampNeg (0 : Int32).toNatClampNeg (20 : Int32).toNatClampNeg)) 29 (va_cpy ((sC z1.2 28 (va_cpy (z1.2.1 21 0) (z1.2.1 28 0) (0 : Int32).toNatClampNeg (0 : Int32).toNatClampNeg (20 : Int32).toNatClampNeg)).1 22 0) ((sC z1.2 28 (va_cpy (z1.2.1 21 0) (z1.2.1 28 0) (0 : Int32).toNatClampNeg (0 : Int32).toNatClampNeg (20 : Int32).toNatClampNeg)).1 29 0) (0 : Int32).toNatClampNeg (0 : Int32).toNatClampNeg (88 : Int32).toNatClampNeg)).1 20 0 1)) 21 (va_cpy ((sI (sI z13.2 20 0 13 0) 20 0 1 ((sC (sC z1.2 28 (va_cpy (z1.2.1 21 0) (z1.2.1 28 0) (0 : Int32).toNatClampNeg (0 : Int32).toNatClampNeg (20 : Int32).toNatClampNeg)) 29 (va_cpy ((sC z1.2 28 (va_cpy (z1.2.1 21 0) (z1.2.1 28 0) (0 : Int32).toNatClampNeg (0 : Int32).toNatClampNeg (20 : Int32).toNatClampNeg)).1 22 0) ((sC z1.2 28 (va_cpy (z1.2.1 21 0) (z1.2.1 28 0) (0 : Int32).toNatClampNeg (0 : Int32).toNatClampNeg (20 : Int32).toNatClampNeg)).1 29 0) (0 : Int32).toNatClampNeg (0 : Int32).toNatClampNeg (88 : Int32).toNatClampNeg)).1 20 0 1)).1 28 0) ((sI (sI z13.2 20 0 13 0) 20 0 1 ((sC (sC z1.2 28 (va_cpy (z1.2.1 21 0) (z1.2.1 28 0) (0 : Int32).toNatClampNeg (0 : Int32).toNatClampNeg (20 : Int32).toNatClampNeg)) 29 (va_cpy ((sC z1.2 28 (va_cpy (z1.2.1 21 0) (z1.2.1 28 0) (0 : Int32).toNatClampNeg (0 : Int32).toNatClampNeg (20 : Int32).toNatClampNeg)).1 22 0) ((sC z1.2 28 (va_cpy (z1.2.1 21 0) (z1.2.1 28 0) (0 : Int32).toNatClampNeg (0 : Int32).toNatClampNeg (20 : Int32).toNatClampNeg)).1 29 0) (0 : Int32).toNatClampNeg (0 : Int32).toNatClampNeg (88 : Int32).toNatClampNeg)).1 20 0 1)).1 21 0) (0 : Int32).toNatClampNeg (0 : Int32).toNatClampNeg (20 : Int32).toNatClampNeg)) 22 (va_cpy ((sC (sI (sI z13.2 20 0 13 0) 20 0 1 ((sC (sC z1.2 28 (va_cpy (z1.2.1 21 0) (z1.2.1 28 0) (0 : Int32).toNatClampNeg (0 : Int32).toNatClampNeg (20 : Int32).toNatClampNeg)) 29 (va_cpy ((sC z1.2 28 (va_cpy (z1.2.1 21 0) (z1.2.1 28 0) (0 : Int32).toNatClampNeg (0 : Int32).toNatClampNeg (20 : Int32).toNatClampNeg)).1 22 0) ((sC z1.2 28 (va_cpy (z1.2.1 21 0) (z1.2.1 28 0) (0 : Int32).toNatClampNeg (0 : Int32).toNatClampNeg (20 : Int32).toNatClampNeg)).1 29 0) (0 : Int32).toNatClampNeg (0 : Int32).toNatClampNeg (88 : Int32).toNatClampNeg)).1 20 0 1)) 21 (va_cpy ((sI (sI z13.2 20 0 13 0) 20 0 1 ((sC (sC z1.2 28 (va_cpy (z1.2.1 21 0) (z1.2.1 28 0) (0 : Int32).toNatClampNeg (0 : Int32).toNatClampNeg (20 : Int32).toNatClampNeg)) 29 (va_cpy ((sC z1.2 28 (va_cpy (z1.2.1 21 0) (z1.2.1 28 0) (0 : Int32).toNatClampNeg (0 : Int32).toNatClampNeg (20 : Int32).toNatClampNeg)).1 22 0) ((sC z1.2 28 (va_cpy (z1.2.1 21 0) (z1.2.1 28 0) (0 : Int32).toNatClampNeg (0 : Int32).toNatClampNeg (20 : Int32).toNatClampNeg)).1 29 0) (0 : Int32).toNatClampNeg (0 : Int32).toNatClampNeg (88 : Int32).toNatClampNeg)).1 20 0 1)).1 28 0) ((sI (sI z13.2 20 0 13 0) 20 0 1 ((sC (sC z1.2 28 (va_cpy (z1.2.1 21 0) (z1.2.1 28 0) (0 : Int32).toNatClampNeg (0 : Int32).toNatClampNeg (20 : Int32).toNatClampNeg)) 29 (va_cpy ((sC z1.2 28 (va_cpy (z1.2.1 21 0) (z1.2.1 28 0) (0 : Int32).toNatClampNeg (0 : Int32).toNatClampNeg (20 : Int32).toNatClampNeg)).1 22 0) ((sC z1.2 28 (va_cpy (z1.2.1 21 0) (z1.2.1 28 0) (0 : Int32).toNatClampNeg (0 : Int32).toNatClampNeg (20 : Int32).toNatClampNeg)).1 29 0) (0 : Int32).toNatClampNeg (0 : Int32).toNatClampNeg (88 : Int32).toNatClampNeg)).1 20 0 1)).1 21 0) (0 : Int32).toNatClampNeg (0 : Int32).toNatClampNeg (20 : Int32).toNatClampNeg)).1 29 0) ((sC (sI (sI z13.2 20 0 13 0) 20 0 1 ((sC (sC z1.2 28 (va_cpy (z1.2.1 21 0) (z1.2.1 28 0) (0 : Int32).toNatClampNeg (0 : Int32).toNatClampNeg (20 : Int32).toNatClampNeg)) 29 (va_cpy ((sC z1.2 28 (va_cpy (z1.2.1 21 0) (z1.2.1 28 0) (0 : Int32).toNatClampNeg (0 : Int32).toNatClampNeg (20 : Int32).toNatClampNeg)).1 22 0) ((sC z1.2 28 (va_cpy (z1.2.1 21 0) (z1.2.1 28 0) (0 : Int32).toNatClampNeg (0 : Int32).toNatClampNeg (20 : Int32).toNatClampNeg)).1 29 0) (0 : Int32).toNatClampNeg (0 : Int32).toNatClampNeg (88 : Int32).toNatClampNeg)).1 20 0 1)) 21 (va_cpy ((sI (sI z13.2 20 0 13 0) 20 0 1 ((sC (sC z1.2 28 (va_cpy (z1.2.1 21 0) (z1.2.1 28 0) (0 : Int32).toNatClampNeg (0 : Int32).toNatClampNeg (20 : Int32).toNatClampNeg)) 29 (va_cpy ((sC z1.2 28 (va_cpy (z1.2.1 21 0) (z1.2.1 28 0) (0 : Int32).toNatClampNeg (0 : Int32).toNatClampNeg (20 : Int32).toNatClampNeg)).1 22 0) ((sC z1.2 28 (va_cpy (z1.2.1 21 0) (z1.2.1 28 0) (0 : Int32).toNatClampNeg (0 : Int32).toNatClampNeg (20 : Int32).toNatClampNeg)).1 29 0) (0 : Int32).toNatClampNeg (0 : Int32).toNatClampNeg (88 : Int32).toNatClampNeg)).1 20 0 1)).1 28 0) ((sI (sI z13.2 20 0 13 0) 20 0 1 ((sC (sC z1.2 28 (va_cpy (z1.2.1 21 0) (z1.2.1 28 0) (0 : Int32).toNatClampNeg (0 : Int32).toNatClampNeg (20 : Int32).toNatClampNeg)) 29 (va_cpy ((sC z1.2 28 (va_cpy (z1.2.1 21 0) (z1.2.1 28 0) (0 : Int32).toNatClampNeg (0 : Int32).toNatClampNeg (20 : Int32).toNatClampNeg)).1 22 0) ((sC z1.2 28 (va_cpy (z1.2.1 21 0) (z1.2.1 28 0) (0 : Int32).toNatClampNeg (0 : Int32).toNatClampNeg (20 : Int32).toNatClampNeg)).1 29 0) (0 : Int32).toNatClampNeg (0 : Int32).toNatClampNeg (88 : Int32).toNatClampNeg)).1 20 0 1)).1 21 0) (0 : Int32).toNatClampNeg (0 : Int32).toNatClampNeg (20 : Int32).toNatClampNeg)).1 22 0) (0 : Int32).toNatClampNeg (0 : Int32).toNatClampNeg (88 : Int32).toNatClampNeg))))).bind fun r => if kN z12 ≤ kN r.2 then some r else none)) else none)).bind fun r => if kN σ ≤ kN r.2 then some r else none)
set_option maxHeartbeats 4000000 in
set_option maxRecDepth 100000 in
theorem lX5_runsDown_62 {p : Program} {l : Launch} {e : Env} {s : State} {m : MethodId} {args : Array Value} {below : List Frame} {meth : Method} {c : Code} {Q : State → Prop} {lo : Nat} {g : Gx} {h : Sh} {k0 kf : Nat} (C0 : CallFix p m c cX5_runsDown 4 s args wB RX5) (hlo : lo ≤ s.heap.size) (hK : KW g s) (hZ : ZW lo s s.heap) (v1 : Int32) (v2 : Int32)  : ∀ (n : Nat)  (σ : Sg) (z : (Sg)) (hF : LX5_runsDown_62 h.1 h.2.1 v1 v2 n  σ = some z) (hk0 : k0 ≤ kN σ) (hkz : kN σ ≤ kN z) (hkf : kN z ≤ kf) (H : Heap) (locs : List Loc) (ls : Array Slot) (hW : FW g h (Ax lo) σ H) (hS : va_S (Ax lo) s.heap H locs) (hl : lv_has ls 4 [(0, .ref (h.2.2 20 0)), (1, .int v1), (2, .int v2)]) (kk : ∀ (H : Heap) (locs : List Loc) (ls : Array Slot), FW g h (Ax lo) z H → va_S (Ax lo) s.heap H locs → lv_has ls 4 [(0, .ref (h.2.2 20 0)), (2, .int v2)] → W p l e { frames := 4, cells := kf - k0, slots := 4 * (kf - k0), locals := 136 } s m args below meth c H locs (kN z - k0) (4 * (kN z - k0)) Q (F0 m 86 ls [])), W p l e { frames := 4, cells := kf - k0, slots := 4 * (kf - k0), locals := 136 } s m args below meth c H locs (kN σ - k0) (4 * (kN σ - k0)) Q (F0 m 62 ls []) := by
  have hx := C0.1
  have hb := C0.2.1
  intro n
  induction n with
  | zero =>
    intro  σ z hF
    rw [LX5_runsDown_62] at hF
    cases hF
  | succ n ih =>
    intro  σ z hF hk0 hkz hkf H locs ls hW hS hl kk
    rw [LX5_runsDown_62] at hF
    refine lv_aload_n hx hb dX5_runsDown_62 rfl (lv_at hl 0 rfl) ?_
    obtain ⟨z3, hz3, hF⟩ := bnd hF
    refine inI (runV C0 hlo hK hZ hW hS (kX5_isDown l lo g h _   _ _ hz3) wCO_X5_isDown wML_X5_144 wIM_X5_isDown wSE_X5_X5_isDown wIN_X5 hdX5_isDown ⟨Nat.le_of_ble_eq_true rfl, Nat.le_of_ble_eq_true rfl⟩ (recvK hK hW (al20 h 20 (by decide)) (ct20 0) rfl) rfl hl.1 rfl (Nat.le_of_ble_eq_true rfl) dX5_runsDown_63 ⟨by show kN σ - k0 + 0 ≤ kf - k0; omega, by show 4 * (kN σ - k0) + 0 ≤ 4 * (kf - k0); omega⟩) hS (fun H locs hW hS => ?_)
    refine lv_if_ne (tgt := 86) hx hb dX5_runsDown_66 (by decide) (fun c4 => ?_) (fun c4 => ?_)
    · rw [if_neg c4] at hF
      obtain ⟨hg5, hF⟩ := grp hF
      refine W.widen (k := kN z3.2 - k0) (n := 4 * (kN z3.2 - k0)) (by omega) (by omega) ?_
      cases hF
      exact kk _ _ _ hW hS (lv_sub hl [0, 2] rfl)
    · rw [if_pos c4] at hF
      refine lv_aload_n hx hb dX5_runsDown_69 rfl (lv_at hl 0 rfl) ?_
      refine get20 C0 hK hW 0 (al20 h 20 (by decide)) 1 (by decide) wFL_X5_122 rfl rfl dX5_runsDown_70 ?_
      refine lv_iload_n hx hb dX5_runsDown_73 rfl (lv_at hl 2 rfl) ?_
      refine lv_iload_n hx hb dX5_runsDown_74 rfl (lv_at hl 1 rfl) ?_
      refine lv_iadd hx hb dX5_runsDown_75 ?_
      refine lv_icmp_ge (tgt := 86) hx hb dX5_runsDown_76 (by decide) (fun c6 => ?_) (fun c6 => ?_)
      · rw [if_pos c6] at hF
        obtain ⟨hg7, hF⟩ := grp hF
        refine W.widen (k := kN z3.2 - k0) (n := 4 * (kN z3.2 - k0)) (by omega) (by omega) ?_
        cases hF
        exact kk _ _ _ hW hS (lv_sub hl [0, 2] rfl)
      · rw [if_neg c6] at hF
        refine lv_aload_n hx hb dX5_runsDown_79 rfl (lv_at hl 0 rfl) ?_
        obtain ⟨z8, hz8, hF⟩ := bnd hF
        obtain ⟨hg11, hF⟩ := grp hF
        obtain ⟨hF, hp10⟩ := pst hF
        have hq10 : kN z8 ≤ kN z := hp10
        clear hp10
        refine W.widen (k := kN z3.2 - k0) (n := 4 * (kN z3.2 - k0)) (by omega) (by omega) ?_
        refine inV (runV C0 hlo hK hZ hW hS (kX5_oneTick l lo g h _   _ hz8) wCO_X5_oneTick wML_X5_135 wIM_X5_oneTick wSE_X5_X5_oneTick wIN_X5 hdX5_oneTick ⟨Nat.le_of_ble_eq_true rfl, Nat.le_of_ble_eq_true rfl⟩ (recvK hK hW (al20 h 20 (by decide)) (ct20 0) rfl) rfl hl.1 rfl (Nat.le_of_ble_eq_true rfl) dX5_runsDown_80 ⟨by show kN z3.2 - k0 + (kN z8 - kN z3.2) ≤ kf - k0; omega, by show 4 * (kN z3.2 - k0) + 4 * (kN z8 - kN z3.2) ≤ 4 * (kf - k0); omega⟩) hS (fun H locs hW hS => ?_)
        refine W.widen (k := kN z8 - k0) (n := 4 * (kN z8 - k0)) (by omega) (by omega) ?_
        refine lv_goto (tgt := 62) hx hb dX5_runsDown_83 (by decide) ?_
        obtain ⟨hF, hp9⟩ := pst hF
        have hq9 : kN z8 ≤ kN z := hp9
        clear hp9
        refine W.widen (k := kN z8 - k0) (n := 4 * (kN z8 - k0)) (by omega) (by omega) ?_
        exact ih  z8 z hF (by omega) (by omega) (by omega) _ _ _ hW hS (lv_sub hl [0, 1, 2] rfl) kk
set_option maxHeartbeats 4000000 in
set_option maxRecDepth 100000 in
theorem kX5_runsDown (l : Launch) (lo : Nat) (g : Gx) (h : Sh) (σ : Sg) (a1 : Int32)  (r : Int32) (σ1 : Sg) (hF : FX5_runsDown h.1 h.2.1 σ a1 = some (r, σ1)) : MI l yX5_runsDown (ws_ yX5_runsDown cX5_runsDown 4 (some .int)) 4 136 (kN σ1 - kN σ) (4 * (kN σ1 - kN σ)) lo g h [.ref (h.2.2 20 0), .int a1] σ r σ1 := by
  refine ofB (own := RX5) (by decide +kernel) rfl (fun p e s m below meth c C0 hr hlk hlo hK hZ hW hS ls hl => ?_) (Nat.le_of_ble_eq_true rfl)
  have hx := C0.1
  have hb := C0.2.1
  have hl : lv_has ls 4 [(0, .ref (h.2.2 20 0)), (1, .int a1)] := hl
  unfold FX5_runsDown at hF
  obtain ⟨hF, hp18⟩ := pst hF
  have hq18 : kN σ ≤ kN σ1 := hp18
  clear hp18
  refine W.widen (k := kN σ - kN σ) (n := 4 * (kN σ - kN σ)) (by omega) (by omega) ?_
  refine lv_aload_n hx hb dX5_runsDown_0 rfl (lv_at hl 0 rfl) ?_
  refine lv_iconst (v := 0) hx hb dX5_runsDown_1 (by decide) ?_
  refine put20_0 C0 hK hW hS 0 (al20 h 20 (by decide)) wFL_X5_38 dX5_runsDown_2 (fun H locs hW hS => ?_)
  refine lv_iload_n hx hb dX5_runsDown_5 rfl (lv_at hl 1 rfl) ?_
  refine lv_iconst (v := 1) hx hb dX5_runsDown_6 (by decide) ?_
  refine lv_sipush (v := 2000) hx hb dX5_runsDown_7 (by decide) ?_
  obtain ⟨z1, hz1, hF⟩ := bnd hF
  refine inI (runS C0 hlo hK hZ hW hS (kX5_isIn l lo g h _ a1 1 2000  _ _ hz1) wCO_X5_isIn wML_X5_45 wST_X5_isIn wIN_X5 hdsX5_isIn ⟨Nat.le_of_ble_eq_true rfl, Nat.le_of_ble_eq_true rfl⟩ rfl hl.1 rfl (Nat.le_of_ble_eq_true rfl) dX5_runsDown_10 ⟨by show kN σ - kN σ + 0 ≤ (kN σ1) - (kN σ); omega, by show 4 * (kN σ - kN σ) + 0 ≤ 4 * ((kN σ1) - (kN σ)); omega⟩) hS (fun H locs hW hS => ?_)
  refine lv_if_ne (tgt := 22) hx hb dX5_runsDown_13 (by decide) (fun c2 => ?_) (fun c2 => ?_)
  · rw [if_neg c2] at hF
    refine lv_aload_n hx hb dX5_runsDown_22 rfl (lv_at hl 0 rfl) ?_
    refine get20 C0 hK hW 0 (al20 h 20 (by decide)) 4 (by decide) wFL_X5_9 rfl rfl dX5_runsDown_23 ?_
    refine lv_iconst (v := 0) hx hb dX5_runsDown_26 (by decide) ?_
    refine lv_aload_n hx hb dX5_runsDown_27 rfl (lv_at hl 0 rfl) ?_
    refine get20 C0 hK hW 0 (al20 h 20 (by decide)) 14 (by decide) wFL_X5_32 rfl rfl dX5_runsDown_28 ?_
    refine lv_iconst (v := 0) hx hb dX5_runsDown_31 (by decide) ?_
    refine lv_bipush (v := 20) hx hb dX5_runsDown_32 (by decide) ?_
    refine cpyR C0 hK hW hS hl.1 21 28 (al20 h 21 (by decide)) (by decide) (al20 h 28 (by decide)) (by decide) wML_X5_90 (by decide) (by decide) (by decide) (by decide) (by decide) (Nat.le_of_ble_eq_true rfl) (Nat.le_of_ble_eq_true rfl) dX5_runsDown_34 (fun H locs hW hS => ?_)
    refine lv_aload_n hx hb dX5_runsDown_37 rfl (lv_at hl 0 rfl) ?_
    refine get20 C0 hK hW 0 (al20 h 20 (by decide)) 5 (by decide) wFL_X5_13 rfl rfl dX5_runsDown_38 ?_
    refine lv_iconst (v := 0) hx hb dX5_runsDown_41 (by decide) ?_
    refine lv_aload_n hx hb dX5_runsDown_42 rfl (lv_at hl 0 rfl) ?_
    refine get20 C0 hK hW 0 (al20 h 20 (by decide)) 15 (by decide) wFL_X5_35 rfl rfl dX5_runsDown_43 ?_
    refine lv_iconst (v := 0) hx hb dX5_runsDown_46 (by decide) ?_
    refine lv_bipush (v := 88) hx hb dX5_runsDown_47 (by decide) ?_
    refine cpyR C0 hK hW hS hl.1 22 29 (al20 h 22 (by decide)) (by decide) (al20 h 29 (by decide)) (by decide) wML_X5_90 (by decide) (by decide) (by decide) (by decide) (by decide) (Nat.le_of_ble_eq_true rfl) (Nat.le_of_ble_eq_true rfl) dX5_runsDown_49 (fun H locs hW hS => ?_)
    refine lv_aload_n hx hb dX5_runsDown_52 rfl (lv_at hl 0 rfl) ?_
    refine get20 C0 hK hW 0 (al20 h 20 (by decide)) 1 (by decide) wFL_X5_122 rfl rfl dX5_runsDown_53 ?_
    refine lv_istore_n (lv' := [(2, .int ((sC (sC z1.2 28 (va_cpy (z1.2.1 21 0) (z1.2.1 28 0) (0 : Int32).toNatClampNeg (0 : Int32).toNatClampNeg (20 : Int32).toNatClampNeg)) 29 (va_cpy ((sC z1.2 28 (va_cpy (z1.2.1 21 0) (z1.2.1 28 0) (0 : Int32).toNatClampNeg (0 : Int32).toNatClampNeg (20 : Int32).toNatClampNeg)).1 22 0) ((sC z1.2 28 (va_cpy (z1.2.1 21 0) (z1.2.1 28 0) (0 : Int32).toNatClampNeg (0 : Int32).toNatClampNeg (20 : Int32).toNatClampNeg)).1 29 0) (0 : Int32).toNatClampNeg (0 : Int32).toNatClampNeg (88 : Int32).toNatClampNeg)).1 20 0 1)), (0, .ref (h.2.2 20 0)), (1, .int a1)]) hx hb dX5_runsDown_56 rfl hl (by decide) rfl (fun ls hl => ?_)
    refine lv_aload_n hx hb dX5_runsDown_57 rfl (lv_at hl 1 rfl) ?_
    refine lv_iconst (v := 1) hx hb dX5_runsDown_58 (by decide) ?_
    refine put20_13 C0 hK hW hS 0 (al20 h 20 (by decide)) (Or.inr rfl) wFL_X5_112 dX5_runsDown_59 (fun H locs hW hS => ?_)
    obtain ⟨z12, hz12, hF⟩ := bnd hF
    obtain ⟨hg16, hF⟩ := grp hF
    obtain ⟨hF, hp15⟩ := pst hF
    have hq15 : kN z12 ≤ kN σ1 := hp15
    clear hp15
    refine W.widen (k := kN (sI (sC (sC z1.2 28 (va_cpy (z1.2.1 21 0) (z1.2.1 28 0) (0 : Int32).toNatClampNeg (0 : Int32).toNatClampNeg (20 : Int32).toNatClampNeg)) 29 (va_cpy ((sC z1.2 28 (va_cpy (z1.2.1 21 0) (z1.2.1 28 0) (0 : Int32).toNatClampNeg (0 : Int32).toNatClampNeg (20 : Int32).toNatClampNeg)).1 22 0) ((sC z1.2 28 (va_cpy (z1.2.1 21 0) (z1.2.1 28 0) (0 : Int32).toNatClampNeg (0 : Int32).toNatClampNeg (20 : Int32).toNatClampNeg)).1 29 0) (0 : Int32).toNatClampNeg (0 : Int32).toNatClampNeg (88 : Int32).toNatClampNeg)) 20 0 13 1) - (kN σ)) (n := 4 * (kN (sI (sC (sC z1.2 28 (va_cpy (z1.2.1 21 0) (z1.2.1 28 0) (0 : Int32).toNatClampNeg (0 : Int32).toNatClampNeg (20 : Int32).toNatClampNeg)) 29 (va_cpy ((sC z1.2 28 (va_cpy (z1.2.1 21 0) (z1.2.1 28 0) (0 : Int32).toNatClampNeg (0 : Int32).toNatClampNeg (20 : Int32).toNatClampNeg)).1 22 0) ((sC z1.2 28 (va_cpy (z1.2.1 21 0) (z1.2.1 28 0) (0 : Int32).toNatClampNeg (0 : Int32).toNatClampNeg (20 : Int32).toNatClampNeg)).1 29 0) (0 : Int32).toNatClampNeg (0 : Int32).toNatClampNeg (88 : Int32).toNatClampNeg)) 20 0 13 1) - (kN σ))) (by omega) (by omega) ?_
    refine lX5_runsDown_62 (k0 := (kN σ)) (kf := (kN σ1)) C0 hlo hK hZ a1 ((sC (sC z1.2 28 (va_cpy (z1.2.1 21 0) (z1.2.1 28 0) (0 : Int32).toNatClampNeg (0 : Int32).toNatClampNeg (20 : Int32).toNatClampNeg)) 29 (va_cpy ((sC z1.2 28 (va_cpy (z1.2.1 21 0) (z1.2.1 28 0) (0 : Int32).toNatClampNeg (0 : Int32).toNatClampNeg (20 : Int32).toNatClampNeg)).1 22 0) ((sC z1.2 28 (va_cpy (z1.2.1 21 0) (z1.2.1 28 0) (0 : Int32).toNatClampNeg (0 : Int32).toNatClampNeg (20 : Int32).toNatClampNeg)).1 29 0) (0 : Int32).toNatClampNeg (0 : Int32).toNatClampNeg (88 : Int32).toNatClampNeg)).1 20 0 1)  _  _ z12 hz12 (by omega) (by omega) (by omega) _ _ _ hW hS (lv_sub hl [1, 2, 0] rfl) (fun H locs ls hW hS hl => ?_)
    refine lv_aload_n hx hb dX5_runsDown_86 rfl (lv_at hl 0 rfl) ?_
    obtain ⟨z13, hz13, hF⟩ := bnd hF
    refine inI (runV C0 hlo hK hZ hW hS (kX5_isDown l lo g h _   _ _ hz13) wCO_X5_isDown wML_X5_144 wIM_X5_isDown wSE_X5_X5_isDown wIN_X5 hdX5_isDown ⟨Nat.le_of_ble_eq_true rfl, Nat.le_of_ble_eq_true rfl⟩ (recvK hK hW (al20 h 20 (by decide)) (ct20 0) rfl) rfl hl.1 rfl (Nat.le_of_ble_eq_true rfl) dX5_runsDown_87 ⟨by show kN z12 - (kN σ) + 0 ≤ (kN σ1) - (kN σ); omega, by show 4 * (kN z12 - (kN σ)) + 0 ≤ 4 * ((kN σ1) - (kN σ)); omega⟩) hS (fun H locs hW hS => ?_)
    refine lv_if_eq (tgt := 100) hx hb dX5_runsDown_90 (by decide) (fun c14 => ?_) (fun c14 => ?_)
    · rw [if_pos c14] at hF
      refine lv_iconst (v := (-1)) hx hb dX5_runsDown_100 (by decide) ?_
      refine lv_istore_n (lv' := [(3, .int (-1)), (0, .ref (h.2.2 20 0)), (2, .int ((sC (sC z1.2 28 (va_cpy (z1.2.1 21 0) (z1.2.1 28 0) (0 : Int32).toNatClampNeg (0 : Int32).toNatClampNeg (20 : Int32).toNatClampNeg)) 29 (va_cpy ((sC z1.2 28 (va_cpy (z1.2.1 21 0) (z1.2.1 28 0) (0 : Int32).toNatClampNeg (0 : Int32).toNatClampNeg (20 : Int32).toNatClampNeg)).1 22 0) ((sC z1.2 28 (va_cpy (z1.2.1 21 0) (z1.2.1 28 0) (0 : Int32).toNatClampNeg (0 : Int32).toNatClampNeg (20 : Int32).toNatClampNeg)).1 29 0) (0 : Int32).toNatClampNeg (0 : Int32).toNatClampNeg (88 : Int32).toNatClampNeg)).1 20 0 1))]) hx hb dX5_runsDown_101 rfl hl (by decide) rfl (fun ls hl => ?_)
      refine lv_aload_n hx hb dX5_runsDown_102 rfl (lv_at hl 1 rfl) ?_
      refine lv_iconst (v := 0) hx hb dX5_runsDown_103 (by decide) ?_
      refine put20_13 C0 hK hW hS 0 (al20 h 20 (by decide)) (Or.inl rfl) wFL_X5_112 dX5_runsDown_104 (fun H locs hW hS => ?_)
      refine lv_aload_n hx hb dX5_runsDown_107 rfl (lv_at hl 1 rfl) ?_
      refine lv_iload_n hx hb dX5_runsDown_108 rfl (lv_at hl 2 rfl) ?_
      refine put20_1 C0 hK hW hS 0 (al20 h 20 (by decide)) wFL_X5_122 dX5_runsDown_109 (fun H locs hW hS => ?_)
      refine lv_aload_n hx hb dX5_runsDown_112 rfl (lv_at hl 1 rfl) ?_
      refine get20 C0 hK hW 0 (al20 h 20 (by decide)) 14 (by decide) wFL_X5_32 rfl rfl dX5_runsDown_113 ?_
      refine lv_iconst (v := 0) hx hb dX5_runsDown_116 (by decide) ?_
      refine lv_aload_n hx hb dX5_runsDown_117 rfl (lv_at hl 1 rfl) ?_
      refine get20 C0 hK hW 0 (al20 h 20 (by decide)) 4 (by decide) wFL_X5_9 rfl rfl dX5_runsDown_118 ?_
      refine lv_iconst (v := 0) hx hb dX5_runsDown_121 (by decide) ?_
      refine lv_bipush (v := 20) hx hb dX5_runsDown_122 (by decide) ?_
      refine cpyR C0 hK hW hS hl.1 28 21 (al20 h 28 (by decide)) (by decide) (al20 h 21 (by decide)) (by decide) wML_X5_90 (by decide) (by decide) (by decide) (by decide) (by decide) (Nat.le_of_ble_eq_true rfl) (Nat.le_of_ble_eq_true rfl) dX5_runsDown_124 (fun H locs hW hS => ?_)
      refine lv_aload_n hx hb dX5_runsDown_127 rfl (lv_at hl 1 rfl) ?_
      refine get20 C0 hK hW 0 (al20 h 20 (by decide)) 15 (by decide) wFL_X5_35 rfl rfl dX5_runsDown_128 ?_
      refine lv_iconst (v := 0) hx hb dX5_runsDown_131 (by decide) ?_
      refine lv_aload_n hx hb dX5_runsDown_132 rfl (lv_at hl 1 rfl) ?_
      refine get20 C0 hK hW 0 (al20 h 20 (by decide)) 5 (by decide) wFL_X5_13 rfl rfl dX5_runsDown_133 ?_
      refine lv_iconst (v := 0) hx hb dX5_runsDown_136 (by decide) ?_
      refine lv_bipush (v := 88) hx hb dX5_runsDown_137 (by decide) ?_
      refine cpyR C0 hK hW hS hl.1 29 22 (al20 h 29 (by decide)) (by decide) (al20 h 22 (by decide)) (by decide) wML_X5_90 (by decide) (by decide) (by decide) (by decide) (by decide) (Nat.le_of_ble_eq_true rfl) (Nat.le_of_ble_eq_true rfl) dX5_runsDown_139 (fun H locs hW hS => ?_)
      refine lv_iload_n hx hb dX5_runsDown_142 rfl (lv_at hl 0 rfl) ?_
      refine W.widen (k := kN σ1 - kN σ) (n := 4 * (kN σ1 - kN σ)) (by omega) (by omega) ?_
      cases hF
      exact retI C0 hr hlk hW hS dX5_runsDown_143
    · rw [if_neg c14] at hF
      refine lv_aload_n hx hb dX5_runsDown_93 rfl (lv_at hl 0 rfl) ?_
      refine get20 C0 hK hW 0 (al20 h 20 (by decide)) 1 (by decide) wFL_X5_122 rfl rfl dX5_runsDown_94 ?_
      refine lv_goto (tgt := 101) hx hb dX5_runsDown_97 (by decide) ?_
      refine lv_istore_n (lv' := [(3, .int (z13.2.1 20 0 1)), (0, .ref (h.2.2 20 0)), (2, .int ((sC (sC z1.2 28 (va_cpy (z1.2.1 21 0) (z1.2.1 28 0) (0 : Int32).toNatClampNeg (0 : Int32).toNatClampNeg (20 : Int32).toNatClampNeg)) 29 (va_cpy ((sC z1.2 28 (va_cpy (z1.2.1 21 0) (z1.2.1 28 0) (0 : Int32).toNatClampNeg (0 : Int32).toNatClampNeg (20 : Int32).toNatClampNeg)).1 22 0) ((sC z1.2 28 (va_cpy (z1.2.1 21 0) (z1.2.1 28 0) (0 : Int32).toNatClampNeg (0 : Int32).toNatClampNeg (20 : Int32).toNatClampNeg)).1 29 0) (0 : Int32).toNatClampNeg (0 : Int32).toNatClampNeg (88 : Int32).toNatClampNeg)).1 20 0 1))]) hx hb dX5_runsDown_101 rfl hl (by decide) rfl (fun ls hl => ?_)
      refine lv_aload_n hx hb dX5_runsDown_102 rfl (lv_at hl 1 rfl) ?_
      refine lv_iconst (v := 0) hx hb dX5_runsDown_103 (by decide) ?_
      refine put20_13 C0 hK hW hS 0 (al20 h 20 (by decide)) (Or.inl rfl) wFL_X5_112 dX5_runsDown_104 (fun H locs hW hS => ?_)
      refine lv_aload_n hx hb dX5_runsDown_107 rfl (lv_at hl 1 rfl) ?_
      refine lv_iload_n hx hb dX5_runsDown_108 rfl (lv_at hl 2 rfl) ?_
      refine put20_1 C0 hK hW hS 0 (al20 h 20 (by decide)) wFL_X5_122 dX5_runsDown_109 (fun H locs hW hS => ?_)
      refine lv_aload_n hx hb dX5_runsDown_112 rfl (lv_at hl 1 rfl) ?_
      refine get20 C0 hK hW 0 (al20 h 20 (by decide)) 14 (by decide) wFL_X5_32 rfl rfl dX5_runsDown_113 ?_
      refine lv_iconst (v := 0) hx hb dX5_runsDown_116 (by decide) ?_
      refine lv_aload_n hx hb dX5_runsDown_117 rfl (lv_at hl 1 rfl) ?_
      refine get20 C0 hK hW 0 (al20 h 20 (by decide)) 4 (by decide) wFL_X5_9 rfl rfl dX5_runsDown_118 ?_
      refine lv_iconst (v := 0) hx hb dX5_runsDown_121 (by decide) ?_
      refine lv_bipush (v := 20) hx hb dX5_runsDown_122 (by decide) ?_
      refine cpyR C0 hK hW hS hl.1 28 21 (al20 h 28 (by decide)) (by decide) (al20 h 21 (by decide)) (by decide) wML_X5_90 (by decide) (by decide) (by decide) (by decide) (by decide) (Nat.le_of_ble_eq_true rfl) (Nat.le_of_ble_eq_true rfl) dX5_runsDown_124 (fun H locs hW hS => ?_)
      refine lv_aload_n hx hb dX5_runsDown_127 rfl (lv_at hl 1 rfl) ?_
      refine get20 C0 hK hW 0 (al20 h 20 (by decide)) 15 (by decide) wFL_X5_35 rfl rfl dX5_runsDown_128 ?_
      refine lv_iconst (v := 0) hx hb dX5_runsDown_131 (by decide) ?_
      refine lv_aload_n hx hb dX5_runsDown_132 rfl (lv_at hl 1 rfl) ?_
      refine get20 C0 hK hW 0 (al20 h 20 (by decide)) 5 (by decide) wFL_X5_13 rfl rfl dX5_runsDown_133 ?_
      refine lv_iconst (v := 0) hx hb dX5_runsDown_136 (by decide) ?_
      refine lv_bipush (v := 88) hx hb dX5_runsDown_137 (by decide) ?_
      refine cpyR C0 hK hW hS hl.1 29 22 (al20 h 29 (by decide)) (by decide) (al20 h 22 (by decide)) (by decide) wML_X5_90 (by decide) (by decide) (by decide) (by decide) (by decide) (Nat.le_of_ble_eq_true rfl) (Nat.le_of_ble_eq_true rfl) dX5_runsDown_139 (fun H locs hW hS => ?_)
      refine lv_iload_n hx hb dX5_runsDown_142 rfl (lv_at hl 0 rfl) ?_
      refine W.widen (k := kN σ1 - kN σ) (n := 4 * (kN σ1 - kN σ)) (by omega) (by omega) ?_
      cases hF
      exact retI C0 hr hlk hW hS dX5_runsDown_143
  · rw [if_pos c2] at hF
    refine lv_aload_n hx hb dX5_runsDown_16 rfl (lv_at hl 0 rfl) ?_
    refine lv_iconst (v := 1) hx hb dX5_runsDown_17 (by decide) ?_
    obtain ⟨z17, hz17, hF⟩ := bnd hF
    refine inI (runV C0 hlo hK hZ hW hS (kX5_fail l lo g h _ 1  _ _ hz17) wCO_X5_fail wML_X5_52 wIM_X5_fail wSE_X5_X5_fail wIN_X5 hdX5_fail ⟨Nat.le_of_ble_eq_true rfl, Nat.le_of_ble_eq_true rfl⟩ (recvK hK hW (al20 h 20 (by decide)) (ct20 0) rfl) rfl hl.1 rfl (Nat.le_of_ble_eq_true rfl) dX5_runsDown_18 ⟨by show kN σ - kN σ + 0 ≤ (kN σ1) - (kN σ); omega, by show 4 * (kN σ - kN σ) + 0 ≤ 4 * ((kN σ1) - (kN σ)); omega⟩) hS (fun H locs hW hS => ?_)
    refine W.widen (k := kN σ1 - kN σ) (n := 4 * (kN σ1 - kN σ)) (by omega) (by omega) ?_
    cases hF
    exact retI C0 hr hlk hW hS dX5_runsDown_21
