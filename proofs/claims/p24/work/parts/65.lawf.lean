/-! THE LAW'S BUILD: CAMS -/
def CX (g : Gx) (Xk X : Nat → Option va_E) (B B0 : Ab) (k q a1 a2 a3 : Nat) (s' w' p' q' : Int32) (fC : Nat → Option Nat) (M AR : Nat → Nat) (fl : Nat → Nat → Option Nat) (A x v : Nat → Nat → Nat) (F : Nat → Nat → Nat → Int32) : Prop := CI g Xk X B k a2 fC M AR fl A x v F ∧ xLe Xk X ∧ X a2 = some (Er fC 3 (g.2.2.2.1 1)) ∧ X q = some (birdE s' w' (nI (B0 6 k 2)) p' q' a1 a2 a3) ∧ (∃ f3 : Nat → Int32, X a3 = some (Ei f3 6 g.2.1.1)) ∧ ∀ k9 i9 f9, ¬ (k9 = 12 ∧ 3 * k ≤ i9 ∧ i9 < 3 * k + 3) → B k9 i9 f9 = B0 k9 i9 f9
theorem CX.new {g : Gx} {Xk X : Nat → Option va_E} {B B0 : Ab} {k q a1 a2 a3 : Nat} {s' w' p' q' : Int32} {fC : Nat → Option Nat} {M AR : Nat → Nat} {fl : Nat → Nat → Option Nat} {A x v : Nat → Nat → Nat} {F : Nat → Nat → Nat → Int32} (h : CX g Xk X B B0 k q a1 a2 a3 s' w' p' q' fC M AR fl A x v F) (hka : Xk a2 = none) {c : Nat} (hc : c < 3) {a ar px pv : Nat} {Fa : Nat → Int32} (ha : X a = none) (har : xU X a (Ei Fa 2 g.2.1.1) ar = none) (f0 : Fa 0 = nI px) (f1 : Fa 1 = nI pv) (hpx : px < B 6 k 2) (hpv : pv ≤ 100) (hz : B 12 (3 * k + c) px = 0) :
    CX g Xk (xU (xU (xU X a (Ei Fa 2 g.2.1.1)) ar (Er (fun j => if j < M c then fl c j else if j = M c then some a else none) (M c + 1) (g.2.2.2.1 0))) a2 (Er (va_up fC c (some ar)) 3 (g.2.2.2.1 1))) (aU B 12 (3 * k + c) px (pv + 1)) B0 k q a1 a2 a3 s' w' p' q' (va_up fC c (some ar)) (u1 M c (M c + 1)) (u1 AR c ar) (u1 fl c (fun j => if j < M c then fl c j else if j = M c then some a else none)) (u2 A c (M c) a) (u2 x c (M c) px) (u2 v c (M c) pv) (u2 F c (M c) Fa) := by
  obtain ⟨h1, h2, h3, h4, ⟨f3, h5⟩, h6⟩ := h
  refine ⟨h1.new hc h2 h3 ha har f0 f1 hpx hpv hz, fun a9 e9 h9 => ?_, xU_self _ _ _, ?_, ⟨f3, ?_⟩, fun k9 i9 f9 hn => ?_⟩
  · exact (xU_ne (fun z => by rw [z, hka] at h9; cases h9)).trans (xLe.nw har _ _ (xLe.nw ha _ _ (h2 _ _ h9)))
  · exact (xU_ne (fun z => by rw [z, h3] at h4; cases h4)).trans (xLe.nw har _ _ (xLe.nw ha _ _ h4))
  · exact (xU_ne (fun z => by rw [z, h3] at h5; exact er_ei h5)).trans (xLe.nw har _ _ (xLe.nw ha _ _ h5))
  · rw [aU_eq, if_neg (by omega)]
    exact h6 k9 i9 f9 hn
theorem CX.set {g : Gx} {Xk X : Nat → Option va_E} {B B0 : Ab} {k q a1 a2 a3 : Nat} {s' w' p' q' : Int32} {fC : Nat → Option Nat} {M AR : Nat → Nat} {fl : Nat → Nat → Option Nat} {A x v : Nat → Nat → Nat} {F : Nat → Nat → Nat → Int32} (h : CX g Xk X B B0 k q a1 a2 a3 s' w' p' q' fC M AR fl A x v F) {c i0 pv : Nat} (hc : c < 3) (hi0 : i0 < M c) {Fa : Nat → Int32} (f0 : Fa 0 = F c i0 0) (f1 : Fa 1 = nI pv) (hpv : pv ≤ 100) :
    CX g Xk (xU X (A c i0) (Ei Fa 2 g.2.1.1)) (aU B 12 (3 * k + c) (x c i0) (pv + 1)) B0 k q a1 a2 a3 s' w' p' q' fC M AR fl A x (u2 v c i0 pv) (u2 F c i0 Fa) := by
  obtain ⟨h1, h2, h3, h4, ⟨f3, h5⟩, h6⟩ := h
  obtain ⟨-, -, -, c4, -⟩ := h1.1 c hc
  obtain ⟨-, d1, d2, -⟩ := c4 i0 hi0
  refine ⟨h1.set hc hi0 f0 f1 hpv, fun a9 e9 h9 => ?_, ?_, ?_, ⟨f3, ?_⟩, fun k9 i9 f9 hn => ?_⟩
  · exact (xU_ne (fun z => by rw [z, d1] at h9; cases h9)).trans (h2 _ _ h9)
  · exact (xU_ne (fun z => by rw [z, d2] at h3; exact er_ei h3.symm)).trans h3
  · exact (xU_ne (fun z => by rw [z, d2] at h4; cases h4)).trans h4
  · exact (xU_ne (fun z => by rw [z, d2] at h5; exact absurd (inl_n h5) (show ¬ (2 : Nat) = 6 by decide))).trans h5
  · rw [aU_eq, if_neg (by omega)]
    exact h6 k9 i9 f9 hn
theorem ptU_aU (B : Ab) (K px w : Nat) : aU B 12 K px w 12 K = ptU (B 12 K) px w := by
  funext y
  rw [aU_eq]
  unfold ptU
  by_cases q : y = px
  · rw [if_pos ⟨rfl, rfl, q⟩, if_pos q]
  · rw [if_neg (fun z => q z.2.2), if_neg q]
section LAWF
variable {p : Program} {l : Launch} {e : Env} {R : Room} {s : State} {m : MethodId} {args : Array Value} {below : List Frame} {meth : Method} {c : Code} {H : Heap} {locs : List Loc} {cells slots : Nat} {Q : State → Prop}
variable {lo b sim : Nat} {ls : Array Slot} {g : Gx}
theorem sc682 (C0 : CallFix p m c cL_build 19 s args wB RL) (hK : KW g s) {h : Sh} {σ : Sg} {Xk X : Nat → Option va_E} {B B0 : Ab} {ns nb k q a1 a2 a3 u pt i px pv : Nat} {xv yv s' w' p' q' : Int32} {fC : Nat → Option Nat} {M AR : Nat → Nat} {fl : Nat → Nat → Option Nat} {A x v : Nat → Nat → Nat} {F : Nat → Nat → Nat → Int32} (hCX : CX g Xk X B B0 k q a1 a2 a3 s' w' p' q' fC M AR fl A x v F) (hu : u < 3) (hm : M u < 1000) (hn : B 6 k 2 ≤ 96) (hpx : px < B 6 k 2) (hW : FW (gX g X) h (Ax lo) σ H) : ∀ (k9 j : Nat) (th : Int32) (ls : Array Slot), j + k9 = M u → (th = -1 ∧ ∀ i, i < j → x u i ≠ px) ∨ (∃ i0, i0 < j ∧ th = nI i0 ∧ x u i0 = px) → lv_has ls 19 [(0, .ref (h.2.2 0 0)), (1, .ref (b)), (2, .int (nI (30000))), (3, .ref (sim)), (4, .int (nI (ns))), (5, .int (nI (nb))), (6, .int (nI (k))), (7, .int (xv)), (8, .ref (q)), (10, .int (nI (u))), (11, .int (nI (pt))), (12, .int (nI (i))), (13, .int (yv)), (14, .int (nI (px))), (15, .int (nI (pv))), (16, .int (th)), (17, .int (nI (j)))] →
    (∀ (th : Int32) (ls : Array Slot), (th = -1 ∧ ∀ i, i < M u → x u i ≠ px) ∨ (∃ i0, i0 < M u ∧ th = nI i0 ∧ x u i0 = px) → lv_has ls 19 [(0, .ref (h.2.2 0 0)), (1, .ref (b)), (2, .int (nI (30000))), (3, .ref (sim)), (4, .int (nI (ns))), (5, .int (nI (nb))), (6, .int (nI (k))), (7, .int (xv)), (8, .ref (q)), (10, .int (nI (u))), (11, .int (nI (pt))), (12, .int (nI (i))), (13, .int (yv)), (14, .int (nI (px))), (15, .int (nI (pv))), (16, .int (th))] → W p l e R s m args below meth c H locs cells slots Q (F0 m 724 ls [])) → W p l e R s m args below meth c H locs cells slots Q (F0 m 682 ls []) := by
  have hx := C0.1
  have hb := C0.2.1
  obtain ⟨p1, p2, p3, p4, p5, p6, p7⟩ := hCX.1.1 u hu
  intro k9
  induction k9 with
  | zero =>
    intro j th ls hj hv hl kk
    have hjm : j = M u := by omega
    subst hjm
    refine lv_iload hx hb dL_build_682 (lv_at hl 16 rfl) ?_
    refine lv_aload hx hb dL_build_684 (lv_at hl 8 rfl) ?_
    refine xgf (ci := 5) (C := RX5) (T := TX5) (N := 12) C0 hK hW hCX.2.2.2.1 rfl inX5_B 10 (by decide) wFL_L_77 rfl rfl dL_build_686 ?_
    refine lv_iload hx hb dL_build_689 (lv_at hl 9 rfl) ?_
    refine xrl C0 hK hW 7 hCX.2.2.1 rfl rfl (nI_in (by omega) (by omega)) dL_build_691 ?_
    rw [nI_clamp (by omega), p1]
    refine xln (v := nI (M u)) C0 hK hW 6 p3 rfl rfl dL_build_692 ?_
    refine lv_icmp_ge (tgt := 724) hx hb dL_build_693 (by decide) (fun _ => ?_) (fun c9 => absurd (nI_le (by omega) (by omega)) c9)
    exact kk th ls hv (lv_sub hl [0, 1, 2, 3, 4, 5, 6, 7, 8, 9, 10, 11, 12, 13, 14, 15] rfl)
  | succ k9 ih =>
    intro j th ls hj hv hl kk
    obtain ⟨b1, b2, b3, b4, b5, b6, -⟩ := p4 j (by omega)
    have key : ∀ (th : Int32) (ls : Array Slot), (th = -1 ∧ ∀ i, i < j + 1 → x u i ≠ px) ∨ (∃ i0, i0 < j + 1 ∧ th = nI i0 ∧ x u i0 = px) → lv_has ls 19 [(0, .ref (h.2.2 0 0)), (1, .ref (b)), (2, .int (nI (30000))), (3, .ref (sim)), (4, .int (nI (ns))), (5, .int (nI (nb))), (6, .int (nI (k))), (7, .int (xv)), (8, .ref (q)), (10, .int (nI (u))), (11, .int (nI (pt))), (12, .int (nI (i))), (13, .int (yv)), (14, .int (nI (px))), (15, .int (nI (pv))), (16, .int (th)), (17, .int (nI (j)))] → W p l e R s m args below meth c H locs cells slots Q (F0 m 718 ls []) := by
      intro th ls hv hl
      refine lv_iinc (v := nI (j + 1)) (lv' := [(17, .int (nI (j + 1))), (0, .ref (h.2.2 0 0)), (1, .ref (b)), (2, .int (nI (30000))), (3, .ref (sim)), (4, .int (nI (ns))), (5, .int (nI (nb))), (6, .int (nI (k))), (7, .int (xv)), (8, .ref (q)), (10, .int (nI (u))), (11, .int (nI (pt))), (12, .int (nI (i))), (13, .int (yv)), (14, .int (nI (px))), (15, .int (nI (pv))), (16, .int (th))]) hx hb dL_build_718 hl (k := 16) rfl (nI_1 _) (by decide) rfl (fun ls hl => ?_)
      refine lv_goto (tgt := 682) hx hb dL_build_721 (by decide) ?_
      exact ih (j + 1) th ls (by omega) hv (lv_sub hl [1, 2, 3, 4, 5, 6, 7, 8, 9, 10, 11, 12, 13, 14, 15, 16, 0] rfl) kk
    refine lv_iload hx hb dL_build_682 (lv_at hl 16 rfl) ?_
    refine lv_aload hx hb dL_build_684 (lv_at hl 8 rfl) ?_
    refine xgf (ci := 5) (C := RX5) (T := TX5) (N := 12) C0 hK hW hCX.2.2.2.1 rfl inX5_B 10 (by decide) wFL_L_77 rfl rfl dL_build_686 ?_
    refine lv_iload hx hb dL_build_689 (lv_at hl 9 rfl) ?_
    refine xrl C0 hK hW 7 hCX.2.2.1 rfl rfl (nI_in (by omega) (by omega)) dL_build_691 ?_
    rw [nI_clamp (by omega), p1]
    refine xln (v := nI (M u)) C0 hK hW 6 p3 rfl rfl dL_build_692 ?_
    refine lv_icmp_ge (tgt := 724) hx hb dL_build_693 (by decide) (fun c9 => absurd c9 (nI_ge (by omega) (by omega))) (fun _ => ?_)
    refine lv_aload hx hb dL_build_696 (lv_at hl 8 rfl) ?_
    refine xgf (ci := 5) (C := RX5) (T := TX5) (N := 12) C0 hK hW hCX.2.2.2.1 rfl inX5_B 10 (by decide) wFL_L_77 rfl rfl dL_build_698 ?_
    refine lv_iload hx hb dL_build_701 (lv_at hl 9 rfl) ?_
    refine xrl C0 hK hW 7 hCX.2.2.1 rfl rfl (nI_in (by omega) (by omega)) dL_build_703 ?_
    rw [nI_clamp (by omega), p1]
    refine lv_iload hx hb dL_build_704 (lv_at hl 16 rfl) ?_
    refine xrl C0 hK hW 6 p3 rfl rfl (nI_in (by omega) (by omega)) dL_build_706 ?_
    rw [nI_clamp (by omega), b1]
    refine lv_iconst (v := nI 0) hx hb dL_build_707 (by decide) ?_
    refine xil C0 hK hW b3 (nI_in (by omega) (by omega)) dL_build_708 ?_
    rw [nI_clamp (by omega), b4]
    refine lv_iload hx hb dL_build_709 (lv_at hl 13 rfl) ?_
    refine lv_icmp_ne (tgt := 718) hx hb dL_build_711 (by decide) (fun c1 => key th ls ?_ hl) (fun c1 => ?_)
    · rcases hv with ⟨h1, h2⟩ | ⟨i0, h1, h2, h3⟩
      · refine Or.inl ⟨h1, fun i hi => ?_⟩
        by_cases hij : i = j
        · exact fun z => c1 (congrArg nI (by rw [← hij]; exact z))
        · exact h2 i (by omega)
      · exact Or.inr ⟨i0, by omega, h2, h3⟩
    refine lv_iload hx hb dL_build_714 (lv_at hl 16 rfl) ?_
    refine lv_istore (lv' := [(16, .int (nI (j))), (0, .ref (h.2.2 0 0)), (1, .ref (b)), (2, .int (nI (30000))), (3, .ref (sim)), (4, .int (nI (ns))), (5, .int (nI (nb))), (6, .int (nI (k))), (7, .int (xv)), (8, .ref (q)), (10, .int (nI (u))), (11, .int (nI (pt))), (12, .int (nI (i))), (13, .int (yv)), (14, .int (nI (px))), (15, .int (nI (pv))), (17, .int (nI (j)))]) hx hb dL_build_716 hl (by decide) rfl (fun ls hl => ?_)
    exact key (nI j) ls (Or.inr ⟨j, by omega, rfl, (nI_eq (by omega) (by omega)).mp c1⟩) (lv_sub hl [1, 2, 3, 4, 5, 6, 7, 8, 9, 10, 11, 12, 13, 14, 15, 0, 16] rfl)
theorem cp616 (C0 : CallFix p m c cL_build 19 s args wB RL) (hlo : lo ≤ s.heap.size) (hK : KW g s) (hRf : 8 ≤ R.frames) (hRl : 250 ≤ R.locals) {L : Nat} {xs : Nat → Int32} (hX : va_X b L xs s s.heap) (hb9 : b < lo) (hL : L ≤ 260) {h : Sh} {Xk : Nat → Option va_E} {B0 : Ab} {ns nb k q a1 a2 a3 u pt C1 S1 : Nat} {M0 : Nat → Nat} {xv s' w' p' q' : Int32} (hka : Xk a2 = none) (hk : k < h.2.1) (hk4 : k < 4) (hC1 : C1 ≤ R.cells) (hS1 : S1 ≤ R.slots) (hu : u < 3) (hpt : pt ≤ 3) : ∀ (k9 i : Nat) (σ : Sg) (X : Nat → Option va_E) (B : Ab) (fC : Nat → Option Nat) (M AR : Nat → Nat) (fl : Nat → Nat → Option Nat) (A x v : Nat → Nat → Nat) (F : Nat → Nat → Nat → Int32) (cells slots : Nat) (H : Heap) (locs : List Loc) (ls : Array Slot), i + k9 = pt → cells + 2 * k9 ≤ C1 → slots + 8 * k9 ≤ S1 → M u ≤ i → (∀ u', u' < 3 → u' ≠ u → M u' = M0 u') → CX g Xk X B B0 k q a1 a2 a3 s' w' p' q' fC M AR fl A x v F → Cm B h.1 h.2.1 σ → Wf B h.1 h.2.1 1 → FW (gX g X) h (Ax lo) σ H → va_S (Ax lo) s.heap H locs → lv_has ls 19 [(0, .ref (h.2.2 0 0)), (1, .ref (b)), (2, .int (nI (30000))), (3, .ref (sim)), (4, .int (nI (ns))), (5, .int (nI (nb))), (6, .int (nI (k))), (7, .int (xv)), (8, .ref (q)), (10, .int (nI (u))), (11, .int (nI (pt))), (12, .int (nI (i)))] →
    (∀ (σ : Sg) (X : Nat → Option va_E) (B : Ab) (fC : Nat → Option Nat) (M AR : Nat → Nat) (fl : Nat → Nat → Option Nat) (A x v : Nat → Nat → Nat) (F : Nat → Nat → Nat → Int32) (H : Heap) (locs : List Loc) (ls : Array Slot), M u ≤ 3 → (∀ u', u' < 3 → u' ≠ u → M u' = M0 u') → CX g Xk X B B0 k q a1 a2 a3 s' w' p' q' fC M AR fl A x v F → Cm B h.1 h.2.1 σ → Wf B h.1 h.2.1 1 → FW (gX g X) h (Ax lo) σ H → va_S (Ax lo) s.heap H locs → lv_has ls 19 [(0, .ref (h.2.2 0 0)), (1, .ref (b)), (2, .int (nI (30000))), (3, .ref (sim)), (4, .int (nI (ns))), (5, .int (nI (nb))), (6, .int (nI (k))), (7, .int (xv)), (8, .ref (q)), (10, .int (nI (u)))] → W p l e R s m args below meth c H locs C1 S1 Q (F0 m 811 ls [])) → W p l e R s m args below meth c H locs cells slots Q (F0 m 616 ls []) := by
  have hx := C0.1
  have hb := C0.2.1
  have hA : ∀ q : Nat, s.heap.size ≤ q → Ax lo q := fun q hq => Nat.le_trans hlo hq
  intro k9
  induction k9 with
  | zero =>
    intro i σ X B fC M AR fl A x v F cells slots H locs ls hi hc9 hs9 hmi hMo hCX hC hF hW hS hl kk
    refine lv_iload hx hb dL_build_616 (lv_at hl 11 rfl) ?_
    refine lv_iload hx hb dL_build_618 (lv_at hl 10 rfl) ?_
    refine lv_icmp_ge (tgt := 811) hx hb dL_build_620 (by decide) (fun _ => ?_) (fun c9 => absurd (nI_le (by omega) (by omega)) c9)
    exact W.widen (by omega) (by omega) (kk σ X B fC M AR fl A x v F H locs ls (by omega) hMo hCX hC hF hW hS (lv_sub hl [0, 1, 2, 3, 4, 5, 6, 7, 8, 9] rfl))
  | succ k9 ih =>
    intro i σ X B fC M AR fl A x v F cells slots H locs ls hi hc9 hs9 hmi hMo hCX hC hF hW hS hl kk
    obtain ⟨-, -, n8, n96, -⟩ := hF.2.2.2.2.1 k hk
    have e62 : B 6 k 2 = B0 6 k 2 := hCX.2.2.2.2.2 6 k 2 (by omega)
    obtain ⟨p1, p2, p3, p4, p5, p6, p7⟩ := hCX.1.1 u hu
    refine lv_iload hx hb dL_build_616 (lv_at hl 11 rfl) ?_
    refine lv_iload hx hb dL_build_618 (lv_at hl 10 rfl) ?_
    refine lv_icmp_ge (tgt := 811) hx hb dL_build_620 (by decide) (fun c9 => absurd c9 (nI_ge (by omega) (by omega))) (fun _ => ?_)
    refine lv_aload_n hx hb dL_build_623 rfl (lv_at hl 1 rfl) ?_
    refine lv_iconst (v := nI 2) hx hb dL_build_624 (by decide) ?_
    refine lv_iload hx hb dL_build_625 (lv_at hl 9 rfl) ?_
    refine lv_iadd hx hb dL_build_627 ?_
    rw [nI_add]
    refine lv_iconst (v := nI 5) hx hb dL_build_628 (by decide) ?_
    refine lv_iload hx hb dL_build_629 (lv_at hl 11 rfl) ?_
    refine lv_imul hx hb dL_build_631 ?_
    rw [pk_mul]
    refine lv_iadd hx hb dL_build_632 ?_
    rw [nI_add]
    refine lv_iload hx hb dL_build_633 (lv_at hl 6 rfl) ?_
    refine lv_iadd hx hb dL_build_635 ?_
    rw [nI_add]
    refine lv_bipush (v := nI 16) hx hb dL_build_636 (by decide) ?_
    refine lv_irem hx hb dL_build_638 (by decide) ?_
    rw [pk_rem (by omega) (by decide) (by decide)]
    refine cCell C0 hlo hK hW hS (k := (2 + u + 5 * i + k) % 16) hX hb9 hL (by omega) hRf hRl (by omega) (by omega) hl.1 (Nat.le_of_ble_eq_true rfl) dL_build_639 (fun v1 H locs hW hS => ?_)
    refine lv_iload hx hb dL_build_642 (lv_at hl 11 rfl) ?_
    refine lv_ishr hx hb dL_build_644 ?_
    refine lv_bipush (v := nI 13) hx hb dL_build_645 (by decide) ?_
    refine lv_iload hx hb dL_build_647 (lv_at hl 11 rfl) ?_
    refine lv_imul hx hb dL_build_649 ?_
    rw [pk_mul]
    refine lv_iadd hx hb dL_build_650 ?_
    obtain ⟨yv, eyv⟩ : ∃ yv : Int32, yv = ((v1) >>> ((nI (i)) &&& 31)) + (nI (13 * i)) := ⟨_, rfl⟩
    rw [← eyv]
    refine lv_istore (lv' := [(13, .int (yv)), (0, .ref (h.2.2 0 0)), (1, .ref (b)), (2, .int (nI (30000))), (3, .ref (sim)), (4, .int (nI (ns))), (5, .int (nI (nb))), (6, .int (nI (k))), (7, .int (xv)), (8, .ref (q)), (10, .int (nI (u))), (11, .int (nI (pt))), (12, .int (nI (i)))]) hx hb dL_build_651 hl (by decide) rfl (fun ls hl => ?_)
    refine lv_iload hx hb dL_build_653 (lv_at hl 0 rfl) ?_
    refine lv_aload hx hb dL_build_655 (lv_at hl 9 rfl) ?_
    refine xgf (ci := 5) (C := RX5) (T := TX5) (N := 12) C0 hK hW hCX.2.2.2.1 rfl inX5_B 2 (by decide) wFL_L_57 rfl rfl dL_build_657 ?_
    refine cBelow C0 hlo hK hW hS (n := B0 6 k 2) (by omega) (by omega) hRf hRl (by omega) (by omega) hl.1 (Nat.le_of_ble_eq_true rfl) dL_build_660 (fun px H locs hpx hW hS => ?_)
    rw [← e62] at hpx
    refine lv_istore (lv' := [(14, .int (nI (px))), (13, .int (yv)), (0, .ref (h.2.2 0 0)), (1, .ref (b)), (2, .int (nI (30000))), (3, .ref (sim)), (4, .int (nI (ns))), (5, .int (nI (nb))), (6, .int (nI (k))), (7, .int (xv)), (8, .ref (q)), (10, .int (nI (u))), (11, .int (nI (pt))), (12, .int (nI (i)))]) hx hb dL_build_663 hl (by decide) rfl (fun ls hl => ?_)
    refine lv_iload hx hb dL_build_665 (lv_at hl 1 rfl) ?_
    refine lv_iconst (v := nI 4) hx hb dL_build_667 (by decide) ?_
    refine lv_ishr hx hb dL_build_668 ?_
    refine lv_bipush (v := nI 101) hx hb dL_build_669 (by decide) ?_
    refine cBelow C0 hlo hK hW hS (n := 101) (by decide) (by decide) hRf hRl (by omega) (by omega) hl.1 (Nat.le_of_ble_eq_true rfl) dL_build_671 (fun pv H locs hpv hW hS => ?_)
    refine lv_istore (lv' := [(15, .int (nI (pv))), (14, .int (nI (px))), (13, .int (yv)), (0, .ref (h.2.2 0 0)), (1, .ref (b)), (2, .int (nI (30000))), (3, .ref (sim)), (4, .int (nI (ns))), (5, .int (nI (nb))), (6, .int (nI (k))), (7, .int (xv)), (8, .ref (q)), (10, .int (nI (u))), (11, .int (nI (pt))), (12, .int (nI (i)))]) hx hb dL_build_674 hl (by decide) rfl (fun ls hl => ?_)
    refine lv_iconst (v := -1) hx hb dL_build_676 (by decide) ?_
    refine lv_istore (lv' := [(16, .int (-1)), (15, .int (nI (pv))), (14, .int (nI (px))), (13, .int (yv)), (0, .ref (h.2.2 0 0)), (1, .ref (b)), (2, .int (nI (30000))), (3, .ref (sim)), (4, .int (nI (ns))), (5, .int (nI (nb))), (6, .int (nI (k))), (7, .int (xv)), (8, .ref (q)), (10, .int (nI (u))), (11, .int (nI (pt))), (12, .int (nI (i)))]) hx hb dL_build_677 hl (by decide) rfl (fun ls hl => ?_)
    refine lv_iconst (v := nI 0) hx hb dL_build_679 (by decide) ?_
    refine lv_istore (lv' := [(17, .int (nI (0))), (16, .int (-1)), (15, .int (nI (pv))), (14, .int (nI (px))), (13, .int (yv)), (0, .ref (h.2.2 0 0)), (1, .ref (b)), (2, .int (nI (30000))), (3, .ref (sim)), (4, .int (nI (ns))), (5, .int (nI (nb))), (6, .int (nI (k))), (7, .int (xv)), (8, .ref (q)), (10, .int (nI (u))), (11, .int (nI (pt))), (12, .int (nI (i)))]) hx hb dL_build_680 hl (by decide) rfl (fun ls hl => ?_)
    refine sc682 C0 hK hCX hu (by omega) n96 hpx hW (M u) 0 (-1) ls (by omega) (Or.inl ⟨rfl, fun i9 hi9 => absurd hi9 (Nat.not_lt_zero i9)⟩) (lv_sub hl [5, 6, 7, 8, 9, 10, 11, 12, 13, 14, 15, 16, 4, 3, 2, 1, 0] rfl) (fun th ls hv hl => ?_)
    have key : ∀ (X' : Nat → Option va_E) (fC' : Nat → Option Nat) (M' AR' : Nat → Nat) (fl' : Nat → Nat → Option Nat) (A' x' v' : Nat → Nat → Nat) (F' : Nat → Nat → Nat → Int32) (cells' slots' : Nat) (H : Heap) (locs : List Loc) (ls : Array Slot), CX g Xk X' (aU B 12 (3 * k + u) px (pv + 1)) B0 k q a1 a2 a3 s' w' p' q' fC' M' AR' fl' A' x' v' F' → M' u ≤ i + 1 → (∀ u', u' < 3 → u' ≠ u → M' u' = M0 u') → cells' ≤ cells + 2 → slots' ≤ slots + 8 → FW (gX g X') h (Ax lo) σ H → va_S (Ax lo) s.heap H locs → lv_has ls 19 [(0, .ref (h.2.2 0 0)), (1, .ref (b)), (2, .int (nI (30000))), (3, .ref (sim)), (4, .int (nI (ns))), (5, .int (nI (nb))), (6, .int (nI (k))), (7, .int (xv)), (8, .ref (q)), (10, .int (nI (u))), (11, .int (nI (pt))), (12, .int (nI (i))), (13, .int (yv)), (14, .int (nI (px))), (15, .int (nI (pv)))] → W p l e R s m args below meth c H locs cells' slots' Q (F0 m 779 ls []) := by
      intro X' fC' M' AR' fl' A' x' v' F' cells' slots' H locs ls hCX2 hm2 hMo2 hc2 hs2 hW hS hl
      obtain ⟨q1, -, q3, -, -, -, q7⟩ := hCX2.1.1 u hu
      have eM : M' u = ptsA (ptU (B 12 (3 * k + u)) px (pv + 1)) (B 6 k 2) := by rw [q7, ptU_aU, aU_k (by decide)]
      refine lv_aload_n hx hb dL_build_779 rfl (lv_at hl 0 rfl) ?_
      refine lv_iload hx hb dL_build_780 (lv_at hl 6 rfl) ?_
      refine lv_iload hx hb dL_build_782 (lv_at hl 9 rfl) ?_
      refine lv_iload hx hb dL_build_784 (lv_at hl 13 rfl) ?_
      refine lv_iload hx hb dL_build_786 (lv_at hl 14 rfl) ?_
      refine cPoint C0 hlo hK hW hS hC hF hk hu hpx (by omega) (fun _ => by omega) hRf hRl (by omega) (by omega) hl.1 (Nat.le_of_ble_eq_true rfl) dL_build_788 (fun σ H locs hW hS hC hF => ?_)
      rw [← eM]
      refine lv_aload hx hb dL_build_791 (lv_at hl 8 rfl) ?_
      refine xgf (ci := 5) (C := RX5) (T := TX5) (N := 12) C0 hK hW hCX2.2.2.2.1 rfl inX5_B 10 (by decide) wFL_L_77 rfl rfl dL_build_793 ?_
      refine lv_iload hx hb dL_build_796 (lv_at hl 9 rfl) ?_
      refine xrl C0 hK hW 7 hCX2.2.2.1 rfl rfl (nI_in (by omega) (by omega)) dL_build_798 ?_
      rw [nI_clamp (by omega), q1]
      refine xln (v := nI (M' u)) C0 hK hW 6 q3 rfl rfl dL_build_799 ?_
      refine lv_icmp_eq (tgt := 805) hx hb dL_build_800 (by decide) (fun _ => ?_) (fun c9 => absurd (congrArg nI (by omega)) c9)
      refine lv_iinc (v := nI (i + 1)) (lv' := [(12, .int (nI (i + 1))), (0, .ref (h.2.2 0 0)), (1, .ref (b)), (2, .int (nI (30000))), (3, .ref (sim)), (4, .int (nI (ns))), (5, .int (nI (nb))), (6, .int (nI (k))), (7, .int (xv)), (8, .ref (q)), (10, .int (nI (u))), (11, .int (nI (pt))), (13, .int (yv)), (14, .int (nI (px))), (15, .int (nI (pv)))]) hx hb dL_build_805 hl (k := 11) rfl (nI_1 _) (by decide) rfl (fun ls hl => ?_)
      refine lv_goto (tgt := 616) hx hb dL_build_808 (by decide) ?_
      exact ih (i + 1) σ X' _ fC' M' AR' fl' A' x' v' F' cells' slots' H locs ls (by omega) (by omega) (by omega) hm2 hMo2 hCX2 hC hF hW hS (lv_sub hl [1, 2, 3, 4, 5, 6, 7, 8, 9, 10, 11, 0] rfl) kk
    rcases hv with ⟨rfl, hno⟩ | ⟨i0, h1, rfl, h2⟩
    · refine lv_iload hx hb dL_build_724 (lv_at hl 15 rfl) ?_
      refine lv_if_lt (tgt := 747) hx hb dL_build_726 (by decide) (fun _ => ?_) (fun c9 => absurd (by decide) c9)
      have hz : B 12 (3 * k + u) px = 0 := by
        by_cases z : B 12 (3 * k + u) px = 0
        · exact z
        · obtain ⟨i9, j1, j2⟩ := p6 px z
          exact absurd j2 (hno i9 j1)
      refine lv_aload hx hb dL_build_747 (lv_at hl 8 rfl) ?_
      refine xgf (ci := 5) (C := RX5) (T := TX5) (N := 12) C0 hK hW hCX.2.2.2.1 rfl inX5_B 10 (by decide) wFL_L_77 rfl rfl dL_build_749 ?_
      refine lv_iload hx hb dL_build_752 (lv_at hl 9 rfl) ?_
      refine lv_aload hx hb dL_build_754 (lv_at hl 8 rfl) ?_
      refine xgf (ci := 5) (C := RX5) (T := TX5) (N := 12) C0 hK hW hCX.2.2.2.1 rfl inX5_B 10 (by decide) wFL_L_77 rfl rfl dL_build_756 ?_
      refine lv_iload hx hb dL_build_759 (lv_at hl 9 rfl) ?_
      refine xrl C0 hK hW 7 hCX.2.2.1 rfl rfl (nI_in (by omega) (by omega)) dL_build_761 ?_
      rw [nI_clamp (by omega), p1]
      refine lv_iconst (v := nI 2) hx hb dL_build_762 (by decide) ?_
      refine xni (N := 2) C0 hK hW hS hA (nI_pos (by omega)) (nI_clamp (by omega)) (by omega) (by omega) (by omega) dL_build_763 (fun a H ha hW hS => ?_)
      refine lv_dup hx hb dL_build_765 rfl ?_
      refine lv_iconst (v := nI 0) hx hb dL_build_766 (by decide) ?_
      refine lv_iload hx hb dL_build_767 (lv_at hl 13 rfl) ?_
      refine xis C0 hK hW hS (xU_self _ _ _) (nI_in (by omega) (by omega)) dL_build_769 (fun H locs hW hS => ?_)
      rw [xU_tw, nI_clamp (by omega)] at hW
      refine lv_dup hx hb dL_build_770 rfl ?_
      refine lv_iconst (v := nI 1) hx hb dL_build_771 (by decide) ?_
      refine lv_iload hx hb dL_build_772 (lv_at hl 14 rfl) ?_
      refine xis C0 hK hW hS (xU_self _ _ _) (nI_in (by omega) (by omega)) dL_build_774 (fun H locs hW hS => ?_)
      rw [xU_tw, nI_clamp (by omega)] at hW
      obtain ⟨Fa, eF⟩ : ∃ Fa, Fa = upd (upd (fun _ => 0) 0 (nI px)) 1 (nI pv) := ⟨_, rfl⟩
      rw [← eF] at hW
      have f0 : Fa 0 = nI px := by rw [eF]; rfl
      have f1 : Fa 1 = nI pv := by rw [eF]; rfl
      have hW : FW (gX g (xU X a (Ei Fa 2 g.2.1.1))) h (Ax lo) σ H := hW
      have leA : xLe X (xU X a (Ei Fa 2 g.2.1.1)) := xLe.nw ha
      refine cWith C0 hlo hK hW hS (leA _ _ p3) (xU_self X a (Ei Fa 2 g.2.1.1)) (fun j hj => ?_) (by omega) hRf hRl (by omega) (by omega) hl.1 (Nat.le_of_ble_eq_true rfl) dL_build_775 (fun ar H locs har hW hS => ?_)
      · obtain ⟨b1, b2, b3, -⟩ := p4 j hj
        exact ⟨_, _, b1, leA _ _ b3⟩
      refine xrsA C0 hK hW hS 7 6 (xLe.nw har _ _ (leA _ _ hCX.2.2.1)) (xU_self _ _ _) rfl rfl rfl (fun C h => by cases h) hK.2.2.2.2.2.2.2.2 (nI_in (by omega) (by omega)) dL_build_778 (fun H locs hW hS => ?_)
      rw [nI_clamp (by omega)] at hW
      exact key _ _ _ _ _ _ _ _ _ _ _ H locs ls (hCX.new hka hu ha har f0 f1 hpx (by omega) hz) (by rw [u1_s]; omega) (fun u9 h9 n9 => (u1_n n9).trans (hMo u9 h9 n9)) (by omega) (by omega) hW hS (lv_sub hl [0, 1, 2, 3, 4, 5, 6, 7, 8, 9, 10, 11, 12, 13, 14] rfl)
    · refine lv_iload hx hb dL_build_724 (lv_at hl 15 rfl) ?_
      refine lv_if_lt (tgt := 747) hx hb dL_build_726 (by decide) (fun c9 => absurd c9 (nI_pos (by omega))) (fun _ => ?_)
      obtain ⟨b1, b2, b3, b4, b5, b6, b7, b8⟩ := p4 i0 h1
      refine lv_aload hx hb dL_build_729 (lv_at hl 8 rfl) ?_
      refine xgf (ci := 5) (C := RX5) (T := TX5) (N := 12) C0 hK hW hCX.2.2.2.1 rfl inX5_B 10 (by decide) wFL_L_77 rfl rfl dL_build_731 ?_
      refine lv_iload hx hb dL_build_734 (lv_at hl 9 rfl) ?_
      refine xrl C0 hK hW 7 hCX.2.2.1 rfl rfl (nI_in (by omega) (by omega)) dL_build_736 ?_
      rw [nI_clamp (by omega), p1]
      refine lv_iload hx hb dL_build_737 (lv_at hl 15 rfl) ?_
      refine xrl C0 hK hW 6 p3 rfl rfl (nI_in (by omega) (by omega)) dL_build_739 ?_
      rw [nI_clamp (by omega), b1]
      refine lv_iconst (v := nI 1) hx hb dL_build_740 (by decide) ?_
      refine lv_iload hx hb dL_build_741 (lv_at hl 14 rfl) ?_
      refine xis C0 hK hW hS b3 (nI_in (by omega) (by omega)) dL_build_743 (fun H locs hW hS => ?_)
      rw [nI_clamp (by omega)] at hW
      refine lv_goto (tgt := 779) hx hb dL_build_744 (by decide) ?_
      have hCX2 := hCX.set hu h1 (Fa := upd (F u i0) 1 (nI pv)) (if_neg (by decide)) (if_pos rfl) (pv := pv) (by omega)
      rw [h2] at hCX2
      exact key _ _ _ _ _ _ _ _ _ _ _ H locs ls hCX2 (by omega) hMo (by omega) (by omega) hW hS (lv_sub hl [0, 1, 2, 3, 4, 5, 6, 7, 8, 9, 10, 11, 12, 13, 14] rfl)
theorem cm589 (C0 : CallFix p m c cL_build 19 s args wB RL) (hlo : lo ≤ s.heap.size) (hK : KW g s) (hRf : 8 ≤ R.frames) (hRl : 250 ≤ R.locals) {L : Nat} {xs : Nat → Int32} (hX : va_X b L xs s s.heap) (hb9 : b < lo) (hL : L ≤ 260) {h : Sh} {Xk : Nat → Option va_E} {B0 : Ab} {ns nb k q a1 a2 a3 C1 S1 : Nat} {xv s' w' p' q' : Int32} (hka : Xk a2 = none) (hk : k < h.2.1) (hk4 : k < 4) (hC1 : C1 ≤ R.cells) (hS1 : S1 ≤ R.slots) : ∀ (k9 u : Nat) (σ : Sg) (X : Nat → Option va_E) (B : Ab) (fC : Nat → Option Nat) (M AR : Nat → Nat) (fl : Nat → Nat → Option Nat) (A x v : Nat → Nat → Nat) (F : Nat → Nat → Nat → Int32) (cells slots : Nat) (H : Heap) (locs : List Loc) (ls : Array Slot), u + k9 = 3 → cells + 6 * k9 ≤ C1 → slots + 24 * k9 ≤ S1 → (∀ u', u' < u → M u' ≤ 3) → (∀ u', u ≤ u' → u' < 3 → M u' = 0) → CX g Xk X B B0 k q a1 a2 a3 s' w' p' q' fC M AR fl A x v F → Cm B h.1 h.2.1 σ → Wf B h.1 h.2.1 1 → FW (gX g X) h (Ax lo) σ H → va_S (Ax lo) s.heap H locs → lv_has ls 19 [(0, .ref (h.2.2 0 0)), (1, .ref (b)), (2, .int (nI (30000))), (3, .ref (sim)), (4, .int (nI (ns))), (5, .int (nI (nb))), (6, .int (nI (k))), (7, .int (xv)), (8, .ref (q)), (10, .int (nI (u)))] →
    (∀ (σ : Sg) (X : Nat → Option va_E) (B : Ab) (fC : Nat → Option Nat) (M AR : Nat → Nat) (fl : Nat → Nat → Option Nat) (A x v : Nat → Nat → Nat) (F : Nat → Nat → Nat → Int32) (H : Heap) (locs : List Loc) (ls : Array Slot), (∀ u', u' < 3 → M u' ≤ 3) → CX g Xk X B B0 k q a1 a2 a3 s' w' p' q' fC M AR fl A x v F → Cm B h.1 h.2.1 σ → Wf B h.1 h.2.1 1 → FW (gX g X) h (Ax lo) σ H → va_S (Ax lo) s.heap H locs → lv_has ls 19 [(0, .ref (h.2.2 0 0)), (1, .ref (b)), (2, .int (nI (30000))), (3, .ref (sim)), (4, .int (nI (ns))), (5, .int (nI (nb))), (6, .int (nI (k))), (7, .int (xv)), (8, .ref (q))] → W p l e R s m args below meth c H locs C1 S1 Q (F0 m 817 ls [])) → W p l e R s m args below meth c H locs cells slots Q (F0 m 589 ls []) := by
  have hx := C0.1
  have hb := C0.2.1
  intro k9
  induction k9 with
  | zero =>
    intro u σ X B fC M AR fl A x v F cells slots H locs ls hu hc9 hs9 hm1 hm2 hCX hC hF hW hS hl kk
    refine lv_iload hx hb dL_build_589 (lv_at hl 9 rfl) ?_
    refine lv_iconst (v := nI 3) hx hb dL_build_591 (by decide) ?_
    refine lv_icmp_ge (tgt := 817) hx hb dL_build_592 (by decide) (fun _ => ?_) (fun c9 => absurd (nI_le (by omega) (by omega)) c9)
    exact W.widen (by omega) (by omega) (kk σ X B fC M AR fl A x v F H locs ls (fun u9 h9 => hm1 u9 (by omega)) hCX hC hF hW hS (lv_sub hl [0, 1, 2, 3, 4, 5, 6, 7, 8] rfl))
  | succ k9 ih =>
    intro u σ X B fC M AR fl A x v F cells slots H locs ls hu hc9 hs9 hm1 hm2 hCX hC hF hW hS hl kk
    refine lv_iload hx hb dL_build_589 (lv_at hl 9 rfl) ?_
    refine lv_iconst (v := nI 3) hx hb dL_build_591 (by decide) ?_
    refine lv_icmp_ge (tgt := 817) hx hb dL_build_592 (by decide) (fun c9 => absurd c9 (nI_ge (by omega) (by omega))) (fun _ => ?_)
    refine lv_aload_n hx hb dL_build_595 rfl (lv_at hl 1 rfl) ?_
    refine lv_bipush (v := nI 12) hx hb dL_build_596 (by decide) ?_
    refine cCell C0 hlo hK hW hS (k := 12) hX hb9 hL (by omega) hRf hRl (by omega) (by omega) hl.1 (Nat.le_of_ble_eq_true rfl) dL_build_598 (fun v1 H locs hW hS => ?_)
    refine lv_iload hx hb dL_build_601 (lv_at hl 6 rfl) ?_
    refine lv_iload hx hb dL_build_603 (lv_at hl 9 rfl) ?_
    refine lv_iadd hx hb dL_build_605 ?_
    rw [nI_add]
    refine lv_ishr hx hb dL_build_606 ?_
    refine lv_iconst (v := nI 4) hx hb dL_build_607 (by decide) ?_
    refine cBelow C0 hlo hK hW hS (n := 4) (by decide) (by decide) hRf hRl (by omega) (by omega) hl.1 (Nat.le_of_ble_eq_true rfl) dL_build_608 (fun pt H locs hpt hW hS => ?_)
    refine lv_istore (lv' := [(11, .int (nI (pt))), (0, .ref (h.2.2 0 0)), (1, .ref (b)), (2, .int (nI (30000))), (3, .ref (sim)), (4, .int (nI (ns))), (5, .int (nI (nb))), (6, .int (nI (k))), (7, .int (xv)), (8, .ref (q)), (10, .int (nI (u)))]) hx hb dL_build_611 hl (by decide) rfl (fun ls hl => ?_)
    refine lv_iconst (v := nI 0) hx hb dL_build_613 (by decide) ?_
    refine lv_istore (lv' := [(12, .int (nI (0))), (11, .int (nI (pt))), (0, .ref (h.2.2 0 0)), (1, .ref (b)), (2, .int (nI (30000))), (3, .ref (sim)), (4, .int (nI (ns))), (5, .int (nI (nb))), (6, .int (nI (k))), (7, .int (xv)), (8, .ref (q)), (10, .int (nI (u)))]) hx hb dL_build_614 hl (by decide) rfl (fun ls hl => ?_)
    refine cp616 (M0 := M) (C1 := cells + 6) (S1 := slots + 24) C0 hlo hK hRf hRl hX hb9 hL hka hk hk4 (by omega) (by omega) (by omega) (by omega) pt 0 σ X B fC M AR fl A x v F cells slots H locs ls (by omega) (by omega) (by omega) (Nat.le_of_eq (hm2 u (Nat.le_refl u) (by omega))) (fun _ _ _ => rfl) hCX hC hF hW hS (lv_sub hl [2, 3, 4, 5, 6, 7, 8, 9, 10, 11, 1, 0] rfl) (fun σ X B fC M2 AR fl A x v F H locs ls hm3 hMo hCX hC hF hW hS hl => ?_)
    refine lv_iinc (v := nI (u + 1)) (lv' := [(10, .int (nI (u + 1))), (0, .ref (h.2.2 0 0)), (1, .ref (b)), (2, .int (nI (30000))), (3, .ref (sim)), (4, .int (nI (ns))), (5, .int (nI (nb))), (6, .int (nI (k))), (7, .int (xv)), (8, .ref (q))]) hx hb dL_build_811 hl (k := 9) rfl (nI_1 _) (by decide) rfl (fun ls hl => ?_)
    refine lv_goto (tgt := 589) hx hb dL_build_814 (by decide) ?_
    refine ih (u + 1) σ X B fC M2 AR fl A x v F _ _ H locs ls (by omega) (by omega) (by omega) (fun u9 h9 => ?_) (fun u9 h9 h8 => ?_) hCX hC hF hW hS (lv_sub hl [1, 2, 3, 4, 5, 6, 7, 8, 9, 0] rfl) kk
    · by_cases hue : u9 = u
      · rw [hue]; exact hm3
      · rw [hMo u9 (by omega) hue]; exact hm1 u9 (by omega)
    · rw [hMo u9 h8 (by omega)]; exact hm2 u9 (by omega) h8
end LAWF
