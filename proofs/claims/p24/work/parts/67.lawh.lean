/-! THE LAW'S BUILD: ITS CONTRACT -/
abbrev BU : Type := Sh × Sg × (Nat → Option va_E) × Ab × Nat
/-- what build leaves -/
def BQ (g : Gx) (pp : Nat) (u : BU) : Prop := 1 ≤ u.1.1 ∧ u.1.2.2 0 0 = pp ∧ Cm u.2.2.2.1 u.1.1 u.1.2.1 u.2.1 ∧ Wf u.2.2.2.1 u.1.1 u.1.2.1 1 ∧ BI u.1.2.1 u.2.2.2.1 ∧ SM g u.2.2.1 u.1.1 u.1.2.1 u.2.2.2.2 u.2.2.2.1
set_option maxHeartbeats 8000000 in
set_option maxRecDepth 100000 in
theorem kL_build (l : Launch) (lo : Nat) (g : Gx) (h : Sh) (σ : Sg) (X : Nat → Option va_E) (B : Ab) (b L : Nat) (xs : Nat → Int32) (hb9 : b < lo) (hL : L ≤ 260) (h10 : h.1 = 0) (h20 : h.2.1 = 0) (hC : Cm B h.1 h.2.1 σ) (hF : Wf B h.1 h.2.1 1) (hB : BI 0 B) : Met l yL_build (ws_ yL_build cL_build 19 (some (.object RX6))) { frames := 8, cells := 300, slots := 5000, locals := 250 } (va_Pc [.ref (h.2.2 0 0), .ref b, .int (nI 30000)] (WS lo (gX g X) h σ b L xs)) (va_Qq (fun (r' : Option Nat) (u : BU) => r' = some u.2.2.2.2 ∧ BQ g (h.2.2 0 0) u) (fun u t => FW (gX g u.2.2.1) u.1 (Ax lo) u.2.1 t.heap) (Ax lo)) 300 5000 (Ax lo) := by
  refine ofBS (own := RL) (by decide +kernel) rfl (fun p e s m below meth c C0 hr hlk hlo hK0 hX hW hS ls hl => ?_) (Nat.le_of_ble_eq_true rfl)
  have hK : KW g s := hK0
  have hx := C0.1
  have hb := C0.2.1
  have hA : ∀ q : Nat, s.heap.size ≤ q → Ax lo q := fun q hq => Nat.le_trans hlo hq
  have hRf : 8 ≤ ({ frames := 8, cells := 300, slots := 5000, locals := 250 } : Room).frames := Nat.le_refl 8
  have hRl : 250 ≤ ({ frames := 8, cells := 300, slots := 5000, locals := 250 } : Room).locals := Nat.le_refl 250
  have hRc : ({ frames := 8, cells := 300, slots := 5000, locals := 250 } : Room).cells = 300 := rfl
  have hRs : ({ frames := 8, cells := 300, slots := 5000, locals := 250 } : Room).slots = 5000 := rfl
  have hl : lv_has ls 19 [(0, .ref (h.2.2 0 0)), (1, .ref b), (2, .int (nI 30000))] := hl
  refine xno (ci := 6) (C := RX6) (T := TX6) (N := 6) (fs := [.int 0, .null, .null, .null, .null, .int 0]) C0 hK hW hS hA inX6_B tyX6_ok wCL_L_9 wIS_X6 wIN_X6 rfl (fun j hj => by rcases (show j = 0 ∨ j = 1 ∨ j = 2 ∨ j = 3 ∨ j = 4 ∨ j = 5 by omega) with rfl | rfl | rfl | rfl | rfl | rfl <;> rfl) (Nat.le_of_ble_eq_true rfl) (Nat.le_of_ble_eq_true rfl) dL_build_0 (fun sim H hsim hW hS => ?_)
  refine lv_dup hx hb dL_build_3 rfl ?_
  refine cNewSim C0 hlo hK hW hS (xU_self _ _ _) hRf hRl (Nat.le_of_ble_eq_true rfl) (Nat.le_of_ble_eq_true rfl) hl.1 (Nat.le_of_ble_eq_true rfl) dL_build_4 (fun X1 aS aC aB aO rr H locs e1 e2 e3 e4 e5 e6 e7 hW hS => ?_)
  refine lv_astore_n (lv' := [(3, .ref (sim)), (0, .ref (h.2.2 0 0)), (1, .ref (b)), (2, .int (nI (30000)))]) hx hb dL_build_7 rfl hl (by decide) rfl (fun ls hl => ?_)
  refine lv_iconst (v := nI 1) hx hb dL_build_8 (by decide) ?_
  refine lv_aload_n hx hb dL_build_9 rfl (lv_at hl 2 rfl) ?_
  refine lv_iconst (v := nI 0) hx hb dL_build_10 (by decide) ?_
  refine cCell C0 hlo hK hW hS (k := 0) hX hb9 hL (by omega) hRf hRl (by omega) (by omega) hl.1 (Nat.le_of_ble_eq_true rfl) dL_build_11 (fun v1 H locs hW hS => ?_)
  refine lv_iconst (v := nI 3) hx hb dL_build_14 (by decide) ?_
  refine cBelow C0 hlo hK hW hS (n := 3) (by decide) (by decide) hRf hRl (by omega) (by omega) hl.1 (Nat.le_of_ble_eq_true rfl) dL_build_15 (fun j1 H locs hj1 hW hS => ?_)
  refine lv_iadd hx hb dL_build_18 ?_
  rw [nI_add]
  obtain ⟨ns, ens⟩ : ∃ ns, ns = 1 + j1 := ⟨_, rfl⟩
  rw [← ens]
  refine lv_istore (lv' := [(4, .int (nI (ns))), (3, .ref (sim)), (0, .ref (h.2.2 0 0)), (1, .ref (b)), (2, .int (nI (30000)))]) hx hb dL_build_19 hl (by decide) rfl (fun ls hl => ?_)
  refine lv_iconst (v := nI 0) hx hb dL_build_21 (by decide) ?_
  refine lv_istore (lv' := [(5, .int (nI (0))), (4, .int (nI (ns))), (3, .ref (sim)), (0, .ref (h.2.2 0 0)), (1, .ref (b)), (2, .int (nI (30000)))]) hx hb dL_build_22 hl (by decide) rfl (fun ls hl => ?_)
  refine bs24 (C1 := 18) (S1 := 77) C0 hlo hK hRf hRl hX hb9 hL (by omega) (by omega) (by omega) ns 0 h σ X1 B aS (fun _ => none) _ _ H _ ls (by omega) h10 h20 rfl (by omega) (by omega) hC hF hB ⟨e2, e3, fun j hj => absurd hj (Nat.not_lt_zero j), e4, fun i hi => ⟨_, e5 i hi⟩⟩ e7 hW hS (lv_sub hl [3, 4, 5, 2, 1, 0] rfl) (fun h1 σ X2 B2 aS FS H locs ls g1 g2 g3 hC hF hB hSB hXB hW hS hl => ?_)
  rw [← g3] at hl
  refine lv_iconst (v := nI 0) hx hb dL_build_138 (by decide) ?_
  refine lv_istore (lv' := [(5, .int (nI (0))), (0, .ref (h1.2.2 0 0)), (1, .ref (b)), (2, .int (nI (30000))), (3, .ref (sim)), (4, .int (nI (ns)))]) hx hb dL_build_139 hl (by decide) rfl (fun ls hl => ?_)
  refine bc141 C0 hlo hK hRf hRl (by omega) (by omega) hX hb9 hL (by omega) g1 ns 0 σ X2 B2 H locs ls (by omega) hC hF hB hSB hXB hW hS (lv_sub hl [1, 2, 3, 4, 5, 0] rfl) (fun σ X3 B3 H locs ls hC hF hB hSB hXB hW hS hl => ?_)
  refine lv_iconst (v := nI 1) hx hb dL_build_229 (by decide) ?_
  refine lv_aload_n hx hb dL_build_230 rfl (lv_at hl 1 rfl) ?_
  refine lv_iconst (v := nI 0) hx hb dL_build_231 (by decide) ?_
  refine cCell C0 hlo hK hW hS (k := 0) hX hb9 hL (by omega) hRf hRl (by omega) (by omega) hl.1 (Nat.le_of_ble_eq_true rfl) dL_build_232 (fun v2 H locs hW hS => ?_)
  refine lv_iconst (v := nI 5) hx hb dL_build_235 (by decide) ?_
  refine lv_ishr hx hb dL_build_236 ?_
  refine lv_iconst (v := nI 4) hx hb dL_build_237 (by decide) ?_
  refine cBelow C0 hlo hK hW hS (n := 4) (by decide) (by decide) hRf hRl (by omega) (by omega) hl.1 (Nat.le_of_ble_eq_true rfl) dL_build_238 (fun j2 H locs hj2 hW hS => ?_)
  refine lv_iadd hx hb dL_build_241 ?_
  rw [nI_add]
  obtain ⟨nt, ent⟩ : ∃ nt, nt = 1 + j2 := ⟨_, rfl⟩
  rw [← ent]
  refine lv_istore (lv' := [(5, .int (nI (nt))), (0, .ref (h1.2.2 0 0)), (1, .ref (b)), (2, .int (nI (30000))), (3, .ref (sim)), (4, .int (nI (ns)))]) hx hb dL_build_242 hl (by decide) rfl (fun ls hl => ?_)
  refine lv_iconst (v := nI 0) hx hb dL_build_244 (by decide) ?_
  refine lv_istore (lv' := [(6, .int (nI (0))), (5, .int (nI (nt))), (0, .ref (h1.2.2 0 0)), (1, .ref (b)), (2, .int (nI (30000))), (3, .ref (sim)), (4, .int (nI (ns)))]) hx hb dL_build_245 hl (by decide) rfl (fun ls hl => ?_)
  refine bi247 (C1 := 300) (S1 := 5000) C0 hlo hK hRf hRl hX hb9 hL (by omega) (by omega) (by omega) (by omega) (by omega) nt 0 h1 σ X3 B3 aB (fun _ => none) _ _ H locs ls (by omega) g1 g2 rfl (by omega) (by omega) hC hF hB hSB hXB (fun b9 hb9 => absurd hb9 (Nat.not_lt_zero b9)) hW hS (lv_sub hl [2, 3, 4, 5, 6, 1, 0] rfl) (fun h2 σ X4 B4 aB FB H locs ls k1 k2 k3 hC hF hB hSB hXB hLB hW hS hl => ?_)
  refine lv_aload_n hx hb dL_build_928 rfl (lv_at hl 3 rfl) ?_
  have hM : SM g X4 h2.1 h2.2.1 sim B4 := by
    rw [k1, k2]
    exact ⟨aS, aC, aB, aO, FS, FB, hSB.1, hSB.2.1, hXB, hLB⟩
  have hBI : BI h2.2.1 B4 := by rw [k2]; exact hB
  exact W.aret hx hb hr (Or.inl ⟨_, rfl⟩) (va_rf_or (some sim)) (fun t ht hw => ⟨⟨some sim, (h2, σ, X4, B4, sim), rfl, ⟨rfl, ⟨by show 1 ≤ h2.1; omega, k3.trans g3, hC, hF, hBI, hM⟩⟩, by subst ht; exact hW⟩, hS.F ht⟩) hS.2.2 dL_build_929 hlk
theorem hdsL_build : yL_build.cls ≠ "java/lang/invoke/MethodHandle" ∧ yL_build.cls ≠ "java/lang/invoke/VarHandle" ∧ (parseMethodDescriptor yL_build.desc).map (fun d => d.parameters.length) = some 3 := by decide +kernel
