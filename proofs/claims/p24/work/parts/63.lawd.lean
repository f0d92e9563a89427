/-! THE LAW'S BUILD: SPRINGS AND COUPLINGS -/
theorem prA_lt {A : Ab} {ns nb T : Nat} (h : Wf A ns nb T) : prA A < 2 ^ 31 := by
  have f : ∀ a b, A 23 a b ≤ 1 := h.2.2.2.2.2.2.2.2.2
  have := f 0 1
  have := f 0 2
  have := f 0 3
  have := f 1 2
  have := f 1 3
  have := f 2 3
  unfold prA
  omega
section LAWD
variable {p : Program} {l : Launch} {e : Env} {R : Room} {s : State} {m : MethodId} {args : Array Value} {below : List Frame} {meth : Method} {c : Code} {H : Heap} {locs : List Loc} {cells slots : Nat} {Q : State → Prop}
variable {lo b sim : Nat} {ls : Array Slot} {g : Gx}
theorem bs24 (C0 : CallFix p m c cL_build 19 s args wB RL) (hlo : lo ≤ s.heap.size) (hK : KW g s) (hRf : 8 ≤ R.frames) (hRl : 250 ≤ R.locals) {L : Nat} {xs : Nat → Int32} (hX : va_X b L xs s s.heap) (hb9 : b < lo) (hL : L ≤ 260) {ns : Nat} (hn3 : ns ≤ 3) {pp aC aB aO C1 S1 : Nat} {rr : Nat → Nat} (hC1 : C1 ≤ R.cells) (hS1 : S1 ≤ R.slots) : ∀ (k9 k : Nat) (h : Sh) (σ : Sg) (X : Nat → Option va_E) (B : Ab) (aS : Nat) (FS : Nat → Option Nat) (cells slots : Nat) (H : Heap) (locs : List Loc) (ls : Array Slot), k + k9 = ns → h.1 = k → h.2.1 = 0 → h.2.2 0 0 = pp → cells + 3 * k9 ≤ C1 → slots + 17 * k9 ≤ S1 → Cm B h.1 h.2.1 σ → Wf B h.1 h.2.1 1 → BI 0 B → SB g X sim aS aC aB aO k FS rr → X aB = some (Er (fun _ => none) 0 (g.2.2.2.1 3)) → FW (gX g X) h (Ax lo) σ H → va_S (Ax lo) s.heap H locs → lv_has ls 19 [(0, .ref pp), (1, .ref b), (2, .int (nI 30000)), (3, .ref sim), (4, .int (nI ns)), (5, .int (nI k))] →
    (∀ (h : Sh) (σ : Sg) (X : Nat → Option va_E) (B : Ab) (aS : Nat) (FS : Nat → Option Nat) (H : Heap) (locs : List Loc) (ls : Array Slot), h.1 = ns → h.2.1 = 0 → h.2.2 0 0 = pp → Cm B h.1 h.2.1 σ → Wf B h.1 h.2.1 1 → BI 0 B → SB g X sim aS aC aB aO ns FS rr → X aB = some (Er (fun _ => none) 0 (g.2.2.2.1 3)) → FW (gX g X) h (Ax lo) σ H → va_S (Ax lo) s.heap H locs → lv_has ls 19 [(0, .ref pp), (1, .ref b), (2, .int (nI 30000)), (3, .ref sim), (4, .int (nI ns))] → W p l e R s m args below meth c H locs C1 S1 Q (F0 m 138 ls [])) → W p l e R s m args below meth c H locs cells slots Q (F0 m 24 ls []) := by
  have hx := C0.1
  have hb := C0.2.1
  have hA : ∀ q : Nat, s.heap.size ≤ q → Ax lo q := fun q hq => Nat.le_trans hlo hq
  intro k9
  induction k9 with
  | zero =>
    intro k h σ X B aS FS cells slots H locs ls hk hk1 h20 hpp hc9 hs9 hC hF hB hSB hXB hW hS hl kk
    have hkn : k = ns := by omega
    subst hkn
    refine lv_iload hx hb dL_build_24 (lv_at hl 5 rfl) ?_
    refine lv_iload hx hb dL_build_26 (lv_at hl 4 rfl) ?_
    refine lv_icmp_ge (tgt := 138) hx hb dL_build_28 (by decide) (fun _ => ?_) (fun c9 => absurd (nI_le (by omega) (by omega)) c9)
    exact W.widen (by omega) (by omega) (kk h σ X B aS FS H locs ls hk1 h20 hpp hC hF hB hSB hXB hW hS (lv_sub hl [0, 1, 2, 3, 4] rfl))
  | succ k9 ih =>
    intro k h σ X B aS FS cells slots H locs ls hk hk1 h20 hpp hc9 hs9 hC hF hB hSB hXB hW hS hl kk
    rw [← hpp] at hl
    refine lv_iload hx hb dL_build_24 (lv_at hl 5 rfl) ?_
    refine lv_iload hx hb dL_build_26 (lv_at hl 4 rfl) ?_
    refine lv_icmp_ge (tgt := 138) hx hb dL_build_28 (by decide) (fun c9 => absurd c9 (nI_ge (by omega) (by omega))) (fun _ => ?_)
    refine lv_iconst (v := nI 5) hx hb dL_build_31 (by decide) ?_
    refine xni (N := 5) C0 hK hW hS hA (nI_pos (by omega)) (nI_clamp (by omega)) (by omega) (by omega) (by omega) dL_build_32 (fun q1 H hq1 hW hS => ?_)
    refine lv_dup hx hb dL_build_34 rfl ?_
    refine lv_iconst (v := nI 0) hx hb dL_build_35 (by decide) ?_
    refine lv_iconst (v := nI 1) hx hb dL_build_36 (by decide) ?_
    refine lv_aload_n hx hb dL_build_37 rfl (lv_at hl 1 rfl) ?_
    refine lv_iconst (v := nI 1) hx hb dL_build_38 (by decide) ?_
    refine cCell C0 hlo hK hW hS (k := 1) hX hb9 hL (by omega) hRf hRl (by omega) (by omega) hl.1 (Nat.le_of_ble_eq_true rfl) dL_build_39 (fun v1 H locs hW hS => ?_)
    refine lv_iconst (v := nI 3) hx hb dL_build_42 (by decide) ?_
    refine lv_iload hx hb dL_build_43 (lv_at hl 5 rfl) ?_
    refine lv_imul hx hb dL_build_45 ?_
    rw [pk_mul]
    refine lv_ishr hx hb dL_build_46 ?_
    refine lv_bipush (v := nI 50) hx hb dL_build_47 (by decide) ?_
    refine cBelow C0 hlo hK hW hS (n := 50) (by decide) (by decide) hRf hRl (by omega) (by omega) hl.1 (Nat.le_of_ble_eq_true rfl) dL_build_49 (fun ja H locs hja hW hS => ?_)
    refine lv_iadd hx hb dL_build_52 ?_
    rw [nI_add]
    refine xis C0 hK hW hS (xU_self _ _ _) (nI_in (by omega) (by omega)) dL_build_53 (fun H locs hW hS => ?_)
    rw [xU_tw, nI_clamp (by omega)] at hW
    refine lv_dup hx hb dL_build_54 rfl ?_
    refine lv_iconst (v := nI 1) hx hb dL_build_55 (by decide) ?_
    refine lv_iconst (v := nI 1) hx hb dL_build_56 (by decide) ?_
    refine lv_aload_n hx hb dL_build_57 rfl (lv_at hl 1 rfl) ?_
    refine lv_iconst (v := nI 2) hx hb dL_build_58 (by decide) ?_
    refine cCell C0 hlo hK hW hS (k := 2) hX hb9 hL (by omega) hRf hRl (by omega) (by omega) hl.1 (Nat.le_of_ble_eq_true rfl) dL_build_59 (fun v2 H locs hW hS => ?_)
    refine lv_iconst (v := nI 2) hx hb dL_build_62 (by decide) ?_
    refine lv_iload hx hb dL_build_63 (lv_at hl 5 rfl) ?_
    refine lv_imul hx hb dL_build_65 ?_
    rw [pk_mul]
    refine lv_ishr hx hb dL_build_66 ?_
    refine lv_iload_n hx hb dL_build_67 rfl (lv_at hl 2 rfl) ?_
    refine cBelow C0 hlo hK hW hS (n := 30000) (by decide) (by decide) hRf hRl (by omega) (by omega) hl.1 (Nat.le_of_ble_eq_true rfl) dL_build_68 (fun jb H locs hjb hW hS => ?_)
    refine lv_iadd hx hb dL_build_71 ?_
    rw [nI_add]
    refine xis C0 hK hW hS (xU_self _ _ _) (nI_in (by omega) (by omega)) dL_build_72 (fun H locs hW hS => ?_)
    rw [xU_tw, nI_clamp (by omega)] at hW
    refine lv_dup hx hb dL_build_73 rfl ?_
    refine lv_iconst (v := nI 2) hx hb dL_build_74 (by decide) ?_
    refine lv_iconst (v := nI 0) hx hb dL_build_75 (by decide) ?_
    refine xis C0 hK hW hS (xU_self _ _ _) (nI_in (by omega) (by omega)) dL_build_76 (fun H locs hW hS => ?_)
    rw [xU_tw, nI_clamp (by omega)] at hW
    refine lv_dup hx hb dL_build_77 rfl ?_
    refine lv_iconst (v := nI 3) hx hb dL_build_78 (by decide) ?_
    refine lv_iconst (v := nI 0) hx hb dL_build_79 (by decide) ?_
    refine xis C0 hK hW hS (xU_self _ _ _) (nI_in (by omega) (by omega)) dL_build_80 (fun H locs hW hS => ?_)
    rw [xU_tw, nI_clamp (by omega)] at hW
    refine lv_dup hx hb dL_build_81 rfl ?_
    refine lv_iconst (v := nI 4) hx hb dL_build_82 (by decide) ?_
    refine lv_iconst (v := nI 0) hx hb dL_build_83 (by decide) ?_
    refine xis C0 hK hW hS (xU_self _ _ _) (nI_in (by omega) (by omega)) dL_build_84 (fun H locs hW hS => ?_)
    rw [xU_tw, nI_clamp (by omega)] at hW
    obtain ⟨F, eF⟩ : ∃ F, F = upd (upd (upd (upd (upd (fun _ => 0) 0 (nI (1 + ja))) 1 (nI (1 + jb))) 2 (nI 0)) 3 (nI 0)) 4 (nI 0) := ⟨_, rfl⟩
    rw [← eF] at hW
    have f0 : F 0 = nI (1 + ja) := by rw [eF]; rfl
    have f1 : F 1 = nI (1 + jb) := by rw [eF]; rfl
    obtain ⟨X1, eX1⟩ : ∃ X1, X1 = xU X q1 (Ei F 5 g.2.1.1) := ⟨_, rfl⟩
    have hW : FW (gX g X1) h (Ax lo) σ H := by rw [eX1]; exact hW
    have hle1 : xLe X X1 := by rw [eX1]; exact xLe.nw hq1
    have w1 : X1 q1 = some (Ei F 5 g.2.1.1) := by rw [eX1]; exact xU_self _ _ _
    refine lv_astore (lv' := [(6, .ref (q1)), (0, .ref (h.2.2 0 0)), (1, .ref (b)), (2, .int (nI (30000))), (3, .ref (sim)), (4, .int (nI (ns))), (5, .int (nI (k)))]) hx hb dL_build_85 hl (by decide) rfl (fun ls hl => ?_)
    refine lv_aload_n hx hb dL_build_87 rfl (lv_at hl 1 rfl) ?_
    refine lv_aload hx hb dL_build_88 (lv_at hl 0 rfl) ?_
    refine lv_iconst (v := nI 0) hx hb dL_build_90 (by decide) ?_
    refine xil C0 hK hW w1 (nI_in (by omega) (by omega)) dL_build_91 ?_
    rw [nI_clamp (by omega), f0]
    have z0 : B 5 k 1 = 0 := hF.2.2.2.1.2 k (by omega) 1
    refine cAddSpring C0 hlo hK hW hS hC hF (by omega) (j := 1 + ja) (by omega) (by omega) hRf hRl (by omega) (by omega) hl.1 (Nat.le_of_ble_eq_true rfl) dL_build_92 (fun v σ H locs hW hS hC hF => ?_)
    obtain ⟨h1, eh⟩ : ∃ h1, h1 = shS h v := ⟨_, rfl⟩
    obtain ⟨B2, eB⟩ : ∃ B2, B2 = aU B 5 h.1 0 (1 + ja) := ⟨_, rfl⟩
    have g1 : h1.1 = k + 1 := by rw [eh, ← hk1]; rfl
    have g2 : h1.2.1 = 0 := by rw [eh]; exact h20
    have g3 : h1.2.2 0 0 = h.2.2 0 0 := by rw [eh]; show (if 0 = 5 ∧ 0 = h.1 then v else h.2.2 0 0) = h.2.2 0 0; exact if_neg (by omega)
    have z1 : B2 5 k 1 = 0 := by rw [eB]; exact (aU_f (by decide)).trans z0
    have hW : FW (gX g X1) h1 (Ax lo) σ H := by rw [eh]; exact hW
    have hC : Cm B2 h1.1 h1.2.1 σ := by rw [eh, eB]; exact hC
    have hF : Wf B2 h1.1 h1.2.1 1 := by rw [eh, eB]; exact hF
    have hB : BI 0 B2 := by rw [eB]; exact hB.U (by omega)
    rw [← g3] at hl
    refine lv_iload hx hb dL_build_95 (lv_at hl 6 rfl) ?_
    refine lv_icmp_ne (tgt := 117) hx hb dL_build_97 (by decide) (fun c9 => absurd (congrArg nI (by omega)) c9) (fun _ => ?_)
    refine lv_aload_n hx hb dL_build_100 rfl (lv_at hl 1 rfl) ?_
    refine lv_iload hx hb dL_build_101 (lv_at hl 6 rfl) ?_
    refine lv_aload hx hb dL_build_103 (lv_at hl 0 rfl) ?_
    refine lv_iconst (v := nI 1) hx hb dL_build_105 (by decide) ?_
    refine xil C0 hK hW w1 (nI_in (by omega) (by omega)) dL_build_106 ?_
    rw [nI_clamp (by omega), f1]
    refine cWind C0 hlo hK hW hS hC hF (i := k) (j := 1 + jb) (by omega) (by omega) (by omega) hRf hRl (by omega) (by omega) hl.1 (Nat.le_of_ble_eq_true rfl) dL_build_107 (fun σ H locs hW hS hC hF => ?_)
    rw [show min (B2 5 k 1 + (1 + jb)) 200000 = 1 + jb by omega] at hC hF ⊢
    refine lv_aload hx hb dL_build_110 (lv_at hl 0 rfl) ?_
    refine lv_iconst (v := nI 1) hx hb dL_build_112 (by decide) ?_
    refine xil C0 hK hW w1 (nI_in (by omega) (by omega)) dL_build_113 ?_
    rw [nI_clamp (by omega), f1]
    refine lv_icmp_eq (tgt := 119) hx hb dL_build_114 (by decide) (fun _ => ?_) (fun c9 => absurd (congrArg nI (by omega)) c9)
    have hS1 := hSB.le hle1
    refine lv_aload_n hx hb dL_build_119 rfl (lv_at hl 4 rfl) ?_
    refine lv_aload_n hx hb dL_build_120 rfl (lv_at hl 4 rfl) ?_
    refine xgf (ci := 6) (C := RX6) (T := TX6) (N := 6) C0 hK hW hS1.1 rfl inX6_B 1 (by decide) wFL_L_31 rfl rfl dL_build_121 ?_
    refine lv_aload hx hb dL_build_124 (lv_at hl 0 rfl) ?_
    refine cWith C0 hlo hK hW hS hS1.2.1 w1 hS1.2.2.1 (by omega) hRf hRl (by omega) (by omega) hl.1 (Nat.le_of_ble_eq_true rfl) dL_build_126 (fun q2 H locs hq2 hW hS => ?_)
    obtain ⟨FS2, eFS⟩ : ∃ FS2, FS2 = (fun j => if j < k then FS j else if j = k then some q1 else none) := ⟨_, rfl⟩
    rw [← eFS] at hW
    have hS2 := hS1.le (xLe.nw (e := Er FS2 (k + 1) (g.2.2.2.1 0)) hq2)
    refine xpf (ci := 6) (C := RX6) (T := TX6) (N := 6) C0 hK hW hS hS2.1 rfl inX6_B tyX6_ok nmX6 1 (by decide) wFL_L_31 rfl rfl rfl rfl (Nat.le_of_ble_eq_true rfl) dL_build_129 (fun H locs hW hS => ?_)
    have hW : FW (gX g (xU (xU X1 q2 (Er FS2 (k + 1) (g.2.2.2.1 0))) sim (simE q2 aC aB aO))) h1 (Ax lo) σ H := hW
    obtain ⟨hS3, hli⟩ := hS2.put (aB' := aB) (qn := q2) (n' := k + 1) (FS' := FS2) (xU_self _ _ _) (fun j hj => by
      by_cases hjk : j < k
      · obtain ⟨v, z, a1, a2⟩ := hS1.2.2.1 j hjk
        exact ⟨v, z, by rw [eFS]; exact (if_pos hjk).trans a1, xLe.nw hq2 _ _ a2⟩
      · exact ⟨q1, _, by rw [eFS]; exact (if_neg hjk).trans (if_pos (by omega)), xLe.nw hq2 _ _ w1⟩)
    refine lv_iinc (v := nI (k + 1)) (lv' := [(5, .int (nI (k + 1))), (6, .ref (q1)), (0, .ref (h1.2.2 0 0)), (1, .ref (b)), (2, .int (nI (30000))), (3, .ref (sim)), (4, .int (nI (ns)))]) hx hb dL_build_132 hl (k := 6) rfl (nI_1 _) (by decide) rfl (fun ls hl => ?_)
    refine lv_goto (tgt := 24) hx hb dL_build_135 (by decide) ?_
    refine ih (k + 1) h1 σ _ _ q2 FS2 _ _ H locs ls (by omega) g1 g2 (g3.trans hpp) (by omega) (by omega) hC hF (hB.U (by omega)) hS3 (hli _ _ (xLe.nw hq2 _ _ (hle1 _ _ hXB))) hW hS ?_ kk
    rw [← hpp, ← g3]
    exact lv_sub hl [2, 3, 4, 5, 6, 0] rfl
theorem bc154 (C0 : CallFix p m c cL_build 19 s args wB RL) (hlo : lo ≤ s.heap.size) (hK : KW g s) (hRf : 8 ≤ R.frames) (hRl : 250 ≤ R.locals) (hc : cells ≤ R.cells) (hZ : slots ≤ R.slots) {L : Nat} {xs : Nat → Int32} (hX : va_X b L xs s s.heap) (hb9 : b < lo) (hL : L ≤ 260) {h : Sh} {ns a aS aC aB aO : Nat} {FS : Nat → Option Nat} {rr : Nat → Nat} (hn3 : ns ≤ 3) (h1 : h.1 = ns) (ha : a < ns) : ∀ (k9 j : Nat) (σ : Sg) (X : Nat → Option va_E) (B : Ab) (H : Heap) (locs : List Loc) (ls : Array Slot), j + k9 = ns → a < j → Cm B h.1 h.2.1 σ → Wf B h.1 h.2.1 1 → BI 0 B → SB g X sim aS aC aB aO ns FS rr → X aB = some (Er (fun _ => none) 0 (g.2.2.2.1 3)) → FW (gX g X) h (Ax lo) σ H → va_S (Ax lo) s.heap H locs → lv_has ls 19 [(0, .ref (h.2.2 0 0)), (1, .ref b), (2, .int (nI 30000)), (3, .ref sim), (4, .int (nI ns)), (5, .int (nI a)), (6, .int (nI j))] →
    (∀ (σ : Sg) (X : Nat → Option va_E) (B : Ab) (H : Heap) (locs : List Loc) (ls : Array Slot), Cm B h.1 h.2.1 σ → Wf B h.1 h.2.1 1 → BI 0 B → SB g X sim aS aC aB aO ns FS rr → X aB = some (Er (fun _ => none) 0 (g.2.2.2.1 3)) → FW (gX g X) h (Ax lo) σ H → va_S (Ax lo) s.heap H locs → lv_has ls 19 [(0, .ref (h.2.2 0 0)), (1, .ref b), (2, .int (nI 30000)), (3, .ref sim), (4, .int (nI ns)), (5, .int (nI a))] → W p l e R s m args below meth c H locs cells slots Q (F0 m 223 ls [])) → W p l e R s m args below meth c H locs cells slots Q (F0 m 154 ls []) := by
  have hx := C0.1
  have hb := C0.2.1
  intro k9
  induction k9 with
  | zero =>
    intro j σ X B H locs ls hj haj hC hF hB hSB hXB hW hS hl kk
    refine lv_iload hx hb dL_build_154 (lv_at hl 6 rfl) ?_
    refine lv_iload hx hb dL_build_156 (lv_at hl 4 rfl) ?_
    refine lv_icmp_ge (tgt := 223) hx hb dL_build_158 (by decide) (fun _ => ?_) (fun c9 => absurd (nI_le (by omega) (by omega)) c9)
    exact kk σ X B H locs ls hC hF hB hSB hXB hW hS (lv_sub hl [0, 1, 2, 3, 4, 5] rfl)
  | succ k9 ih =>
    intro j σ X B H locs ls hj haj hC hF hB hSB hXB hW hS hl kk
    obtain ⟨Fb, hFb⟩ := hSB.2.2.2.2 a (by omega)
    refine lv_iload hx hb dL_build_154 (lv_at hl 6 rfl) ?_
    refine lv_iload hx hb dL_build_156 (lv_at hl 4 rfl) ?_
    refine lv_icmp_ge (tgt := 223) hx hb dL_build_158 (by decide) (fun c9 => absurd c9 (nI_ge (by omega) (by omega))) (fun _ => ?_)
    refine lv_aload_n hx hb dL_build_161 rfl (lv_at hl 3 rfl) ?_
    refine xgf (ci := 6) (C := RX6) (T := TX6) (N := 6) C0 hK hW hSB.1 rfl inX6_B 2 (by decide) wFL_L_41 rfl rfl dL_build_162 ?_
    refine lv_iload hx hb dL_build_165 (lv_at hl 5 rfl) ?_
    refine xrl C0 hK hW 8 hSB.2.2.2.1 rfl rfl (nI_in (by omega) (by omega)) dL_build_167 ?_
    rw [nI_clamp (by omega), if_pos (by omega)]
    refine lv_iload hx hb dL_build_168 (lv_at hl 6 rfl) ?_
    refine lv_aload_n hx hb dL_build_170 rfl (lv_at hl 1 rfl) ?_
    refine lv_iconst (v := nI 3) hx hb dL_build_171 (by decide) ?_
    refine cCell C0 hlo hK hW hS (k := 3) hX hb9 hL (by omega) hRf hRl (by omega) (by omega) hl.1 (Nat.le_of_ble_eq_true rfl) dL_build_172 (fun v1 H locs hW hS => ?_)
    refine lv_iload hx hb dL_build_175 (lv_at hl 5 rfl) ?_
    refine lv_iload hx hb dL_build_177 (lv_at hl 6 rfl) ?_
    refine lv_iadd hx hb dL_build_179 ?_
    rw [nI_add]
    refine lv_ishr hx hb dL_build_180 ?_
    refine lv_iconst (v := nI 2) hx hb dL_build_181 (by decide) ?_
    refine cBelow C0 hlo hK hW hS (n := 2) (by decide) (by decide) hRf hRl (by omega) (by omega) hl.1 (Nat.le_of_ble_eq_true rfl) dL_build_182 (fun jz H locs hjz hW hS => ?_)
    have key : ∀ (vz : Int32), vz = 0 ∨ vz = 1 → W p l e R s m args below meth c H locs cells slots Q (F0 m 193 ls (.int vz :: .int (nI (j)) :: .ref (rr a) :: [])) := by
      intro vz hvz
      have hnz : vp_nar .boolean vz = 0 ∨ vp_nar .boolean vz = 1 := by
        rcases hvz with rfl | rfl
        · exact Or.inl rfl
        · exact Or.inr rfl
      refine xzs C0 hK hW hS hFb (nI_in (by omega) (by omega)) dL_build_193 (fun H locs hW hS => ?_)
      rw [nI_clamp (by omega)] at hW
      obtain ⟨hSB, hEr⟩ := hSB.bl (i := a) (by omega) (upd Fb j (vp_nar .boolean vz))
      have hXB := hEr _ _ _ _ hXB
      have hFb := xU_self X (rr a) (.inl (g.2.1.2.1, 4, .inl (upd Fb j (vp_nar .boolean vz))))
      generalize xU X (rr a) (.inl (g.2.1.2.1, 4, .inl (upd Fb j (vp_nar .boolean vz)))) = X2 at hW hSB hXB hFb
      refine lv_aload_n hx hb dL_build_194 rfl (lv_at hl 0 rfl) ?_
      refine lv_iload hx hb dL_build_195 (lv_at hl 6 rfl) ?_
      refine lv_iload hx hb dL_build_197 (lv_at hl 5 rfl) ?_
      refine lv_aload_n hx hb dL_build_199 rfl (lv_at hl 3 rfl) ?_
      refine xgf (ci := 6) (C := RX6) (T := TX6) (N := 6) C0 hK hW hSB.1 rfl inX6_B 2 (by decide) wFL_L_41 rfl rfl dL_build_200 ?_
      refine lv_iload hx hb dL_build_203 (lv_at hl 5 rfl) ?_
      refine xrl C0 hK hW 8 hSB.2.2.2.1 rfl rfl (nI_in (by omega) (by omega)) dL_build_205 ?_
      rw [nI_clamp (by omega), if_pos (by omega)]
      refine lv_iload hx hb dL_build_206 (lv_at hl 6 rfl) ?_
      refine xzl C0 hK hW hFb (nI_in (by omega) (by omega)) dL_build_208 ?_
      rw [nI_clamp (by omega), show upd Fb j (vp_nar .boolean vz) j = vp_nar .boolean vz from if_pos rfl]
      refine cCouple C0 hlo hK hW hS hC hF (i := j) (j := a) (by omega) (by omega) (by omega) hnz hRf hRl (by omega) (by omega) hl.1 (Nat.le_of_ble_eq_true rfl) dL_build_209 (fun u σ H locs hu hW hS hC hF => ?_)
      refine lv_if_ge (tgt := 217) hx hb dL_build_212 (by decide) (fun _ => ?_) (fun c9 => absurd (nI_le (a := 0) (by omega) (prA_lt hF)) c9)
      refine lv_iinc (v := nI (j + 1)) (lv' := [(6, .int (nI (j + 1))), (0, .ref (h.2.2 0 0)), (1, .ref (b)), (2, .int (nI (30000))), (3, .ref (sim)), (4, .int (nI (ns))), (5, .int (nI (a)))]) hx hb dL_build_217 hl (k := 6) rfl (nI_1 _) (by decide) rfl (fun ls hl => ?_)
      refine lv_goto (tgt := 154) hx hb dL_build_220 (by decide) ?_
      exact ih (j + 1) σ X2 _ H locs ls (by omega) (by omega) hC hF (hB.U (by omega)) hSB hXB hW hS (lv_sub hl [1, 2, 3, 4, 5, 6, 0] rfl) kk
    refine lv_if_ne (tgt := 192) hx hb dL_build_185 (by decide) (fun _ => ?_) (fun _ => ?_)
    · refine lv_iconst (v := nI 0) hx hb dL_build_192 (by decide) ?_
      exact key (nI 0) (Or.inl rfl)
    · refine lv_iconst (v := nI 1) hx hb dL_build_188 (by decide) ?_
      refine lv_goto (tgt := 193) hx hb dL_build_189 (by decide) ?_
      exact key (nI 1) (Or.inr rfl)
theorem bc141 (C0 : CallFix p m c cL_build 19 s args wB RL) (hlo : lo ≤ s.heap.size) (hK : KW g s) (hRf : 8 ≤ R.frames) (hRl : 250 ≤ R.locals) (hc : cells ≤ R.cells) (hZ : slots ≤ R.slots) {L : Nat} {xs : Nat → Int32} (hX : va_X b L xs s s.heap) (hb9 : b < lo) (hL : L ≤ 260) {h : Sh} {ns aS aC aB aO : Nat} {FS : Nat → Option Nat} {rr : Nat → Nat} (hn3 : ns ≤ 3) (h1 : h.1 = ns) : ∀ (k9 a : Nat) (σ : Sg) (X : Nat → Option va_E) (B : Ab) (H : Heap) (locs : List Loc) (ls : Array Slot), a + k9 = ns → Cm B h.1 h.2.1 σ → Wf B h.1 h.2.1 1 → BI 0 B → SB g X sim aS aC aB aO ns FS rr → X aB = some (Er (fun _ => none) 0 (g.2.2.2.1 3)) → FW (gX g X) h (Ax lo) σ H → va_S (Ax lo) s.heap H locs → lv_has ls 19 [(0, .ref (h.2.2 0 0)), (1, .ref b), (2, .int (nI 30000)), (3, .ref sim), (4, .int (nI ns)), (5, .int (nI a))] →
    (∀ (σ : Sg) (X : Nat → Option va_E) (B : Ab) (H : Heap) (locs : List Loc) (ls : Array Slot), Cm B h.1 h.2.1 σ → Wf B h.1 h.2.1 1 → BI 0 B → SB g X sim aS aC aB aO ns FS rr → X aB = some (Er (fun _ => none) 0 (g.2.2.2.1 3)) → FW (gX g X) h (Ax lo) σ H → va_S (Ax lo) s.heap H locs → lv_has ls 19 [(0, .ref (h.2.2 0 0)), (1, .ref b), (2, .int (nI 30000)), (3, .ref sim), (4, .int (nI ns))] → W p l e R s m args below meth c H locs cells slots Q (F0 m 229 ls [])) → W p l e R s m args below meth c H locs cells slots Q (F0 m 141 ls []) := by
  have hx := C0.1
  have hb := C0.2.1
  intro k9
  induction k9 with
  | zero =>
    intro a σ X B H locs ls ha hC hF hB hSB hXB hW hS hl kk
    refine lv_iload hx hb dL_build_141 (lv_at hl 5 rfl) ?_
    refine lv_iload hx hb dL_build_143 (lv_at hl 4 rfl) ?_
    refine lv_icmp_ge (tgt := 229) hx hb dL_build_145 (by decide) (fun _ => ?_) (fun c9 => absurd (nI_le (by omega) (by omega)) c9)
    exact kk σ X B H locs ls hC hF hB hSB hXB hW hS (lv_sub hl [0, 1, 2, 3, 4] rfl)
  | succ k9 ih =>
    intro a σ X B H locs ls ha hC hF hB hSB hXB hW hS hl kk
    refine lv_iload hx hb dL_build_141 (lv_at hl 5 rfl) ?_
    refine lv_iload hx hb dL_build_143 (lv_at hl 4 rfl) ?_
    refine lv_icmp_ge (tgt := 229) hx hb dL_build_145 (by decide) (fun c9 => absurd c9 (nI_ge (by omega) (by omega))) (fun _ => ?_)
    refine lv_iload hx hb dL_build_148 (lv_at hl 5 rfl) ?_
    refine lv_iconst (v := nI 1) hx hb dL_build_150 (by decide) ?_
    refine lv_iadd hx hb dL_build_151 ?_
    rw [nI_add]
    refine lv_istore (lv' := [(6, .int (nI (a + 1))), (0, .ref (h.2.2 0 0)), (1, .ref (b)), (2, .int (nI (30000))), (3, .ref (sim)), (4, .int (nI (ns))), (5, .int (nI (a)))]) hx hb dL_build_152 hl (by decide) rfl (fun ls hl => ?_)
    refine bc154 C0 hlo hK hRf hRl hc hZ hX hb9 hL hn3 h1 (by omega) (ns - (a + 1)) (a + 1) σ X B H locs ls (by omega) (by omega) hC hF hB hSB hXB hW hS (lv_sub hl [1, 2, 3, 4, 5, 6, 0] rfl) (fun σ X B H locs ls hC hF hB hSB hXB hW hS hl => ?_)
    refine lv_iinc (v := nI (a + 1)) (lv' := [(5, .int (nI (a + 1))), (0, .ref (h.2.2 0 0)), (1, .ref (b)), (2, .int (nI (30000))), (3, .ref (sim)), (4, .int (nI (ns)))]) hx hb dL_build_223 hl (k := 5) rfl (nI_1 _) (by decide) rfl (fun ls hl => ?_)
    refine lv_goto (tgt := 141) hx hb dL_build_226 (by decide) ?_
    exact ih (a + 1) σ X B H locs ls (by omega) hC hF hB hSB hXB hW hS (lv_sub hl [1, 2, 3, 4, 5, 0] rfl) kk
end LAWD
