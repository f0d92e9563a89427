/-! THE LAW'S BUILD: BIRDS -/
theorem shB_pp (h : Sh) (q : Nat) (u : Nat → Nat) : (shB h q u).2.2 0 0 = h.2.2 0 0 := by
  unfold shB
  simp
theorem LB.sm {g : Gx} {X X' : Nat → Option va_E} {B : Ab} {b q sim : Nat} {z : List Value} (h : LB g X B b q) (hs : X sim = some (.inr (6, z))) (hx : ∀ a e, a ≠ sim → X a = some e → X' a = some e) : LB g X' B b q := by
  obtain ⟨s, w, n, p, q', a1, a2, a3, fC, h1, h3, h4⟩ := h
  have ki : ∀ a x, X a = some (.inl x) → X' a = some (.inl x) := fun a x ha => hx a _ (fun z => by rw [z, hs] at ha; cases ha) ha
  refine ⟨s, w, n, p, q', a1, a2, a3, fC, hx q _ (fun z9 => ?_) h1, ki _ _ h3, fun c hc => ?_⟩
  · rw [z9, hs] at h1
    exact absurd (congrArg Prod.fst (Sum.inr.inj (Option.some.inj h1))) (show ¬ (6 : Nat) = 5 by decide)
  obtain ⟨ar, m, f, h5, h6, h7, h8⟩ := h4 c hc
  refine ⟨ar, m, f, h5, ki _ _ h6, h7, fun i hi => ?_⟩
  obtain ⟨a, x, v, F, g1, g2, g3, g4, g5, g6⟩ := h8 i hi
  exact ⟨a, x, v, F, g1, ki _ _ g2, g3, g4, g5, g6⟩
theorem LB.bd {g : Gx} {X : Nat → Option va_E} {B : Ab} {b q : Nat} (h : LB g X B b q) : ∃ z, X q = some (.inr (5, z)) := by
  obtain ⟨s, w, n, p, q', a1, a2, a3, fC, h1, -⟩ := h
  exact ⟨_, h1⟩
section LAWG
variable {p : Program} {l : Launch} {e : Env} {R : Room} {s : State} {m : MethodId} {args : Array Value} {below : List Frame} {meth : Method} {c : Code} {H : Heap} {locs : List Loc} {cells slots : Nat} {Q : State → Prop}
variable {lo b sim : Nat} {ls : Array Slot} {g : Gx}
theorem al884 (C0 : CallFix p m c cL_build 19 s args wB RL) (hK : KW g s) {h : Sh} {σ : Sg} {X : Nat → Option va_E} {ns nt k q le no q12 aS aC aB aO : Nat} {xv : Int32} {FB : Nat → Option Nat} (hk : k < 8) (hsim : X sim = some (simE aS aC aB aO)) (hAB : X aB = some (Er FB k (g.2.2.2.1 3))) (hFB : ∀ j, j < k → ∃ qb z, FB j = some qb ∧ X qb = some (.inr (5, z))) (h12 : X q12 = none) : ∀ (k9 i : Nat) (H : Heap) (locs : List Loc) (ls : Array Slot), i + k9 = k → FW (gX g (xU X q12 (Er (fun j => if j < i then FB j else none) (k + 1) (g.2.2.2.1 3)))) h (Ax lo) σ H → va_S (Ax lo) s.heap H locs → lv_has ls 19 [(0, .ref (h.2.2 0 0)), (1, .ref (b)), (2, .int (nI (30000))), (3, .ref (sim)), (4, .int (nI (ns))), (5, .int (nI (nt))), (6, .int (nI (k))), (7, .int (xv)), (8, .ref (q)), (10, .int (nI (le))), (11, .int (nI (no))), (12, .ref (q12)), (13, .int (nI (i)))] →
    (∀ (H : Heap) (locs : List Loc) (ls : Array Slot), FW (gX g (xU X q12 (Er (fun j => if j < k then FB j else none) (k + 1) (g.2.2.2.1 3)))) h (Ax lo) σ H → va_S (Ax lo) s.heap H locs → lv_has ls 19 [(0, .ref (h.2.2 0 0)), (1, .ref (b)), (2, .int (nI (30000))), (3, .ref (sim)), (4, .int (nI (ns))), (5, .int (nI (nt))), (6, .int (nI (k))), (7, .int (xv)), (8, .ref (q)), (10, .int (nI (le))), (11, .int (nI (no))), (12, .ref (q12))] → W p l e R s m args below meth c H locs cells slots Q (F0 m 909 ls [])) → W p l e R s m args below meth c H locs cells slots Q (F0 m 884 ls []) := by
  have hx := C0.1
  have hb := C0.2.1
  have ki : ∀ (f : Nat → Option Nat) (a : Nat) (e : va_E), X a = some e → xU X q12 (Er f (k + 1) (g.2.2.2.1 3)) a = some e := fun f a e ha => xLe.nw h12 a e ha
  intro k9
  induction k9 with
  | zero =>
    intro i H locs ls hi hW hS hl kk
    have hik : i = k := by omega
    subst hik
    refine lv_iload hx hb dL_build_884 (lv_at hl 12 rfl) ?_
    refine lv_iload hx hb dL_build_886 (lv_at hl 6 rfl) ?_
    refine lv_icmp_ge (tgt := 909) hx hb dL_build_888 (by decide) (fun _ => ?_) (fun c9 => absurd (nI_le (by omega) (by omega)) c9)
    exact kk H locs ls hW hS (lv_sub hl [0, 1, 2, 3, 4, 5, 6, 7, 8, 9, 10, 11] rfl)
  | succ k9 ih =>
    intro i H locs ls hi hW hS hl kk
    obtain ⟨qb, z, f1, f2⟩ := hFB i (by omega)
    refine lv_iload hx hb dL_build_884 (lv_at hl 12 rfl) ?_
    refine lv_iload hx hb dL_build_886 (lv_at hl 6 rfl) ?_
    refine lv_icmp_ge (tgt := 909) hx hb dL_build_888 (by decide) (fun c9 => absurd c9 (nI_ge (by omega) (by omega))) (fun _ => ?_)
    refine lv_aload hx hb dL_build_891 (lv_at hl 11 rfl) ?_
    refine lv_iload hx hb dL_build_893 (lv_at hl 12 rfl) ?_
    refine lv_aload_n hx hb dL_build_895 rfl (lv_at hl 3 rfl) ?_
    refine xgf (ci := 6) (C := RX6) (T := TX6) (N := 6) C0 hK hW (ki _ _ _ hsim) rfl inX6_B 3 (by decide) wFL_L_92 rfl rfl dL_build_896 ?_
    refine lv_iload hx hb dL_build_899 (lv_at hl 12 rfl) ?_
    refine xrl C0 hK hW 9 (ki _ _ _ hAB) rfl rfl (nI_in (by omega) (by omega)) dL_build_901 ?_
    rw [nI_clamp (by omega), f1]
    refine xrsO C0 hK hW hS (xU_self _ _ _) (ki _ _ _ f2) (nI_in (by omega) (by omega)) dL_build_902 (fun H locs hW hS => ?_)
    rw [xU_tw, nI_clamp (by omega), show va_up (fun j => if j < i then FB j else none) i (some qb) = (fun j => if j < i + 1 then FB j else none) from funext fun j => by
      by_cases hj : j = i
      · subst hj
        rw [va_up_self, if_pos (by omega), f1]
      · rw [va_up_ne _ _ hj]
        by_cases h2 : j < i
        · rw [if_pos h2, if_pos (by omega)]
        · rw [if_neg h2, if_neg (by omega)]] at hW
    refine lv_iinc (v := nI (i + 1)) (lv' := [(13, .int (nI (i + 1))), (0, .ref (h.2.2 0 0)), (1, .ref (b)), (2, .int (nI (30000))), (3, .ref (sim)), (4, .int (nI (ns))), (5, .int (nI (nt))), (6, .int (nI (k))), (7, .int (xv)), (8, .ref (q)), (10, .int (nI (le))), (11, .int (nI (no))), (12, .ref (q12))]) hx hb dL_build_903 hl (k := 12) rfl (nI_1 _) (by decide) rfl (fun ls hl => ?_)
    refine lv_goto (tgt := 884) hx hb dL_build_906 (by decide) ?_
    exact ih (i + 1) H locs ls (by omega) hW hS (lv_sub hl [1, 2, 3, 4, 5, 6, 7, 8, 9, 10, 11, 12, 0] rfl) kk
set_option maxHeartbeats 8000000 in
set_option maxRecDepth 100000 in
theorem bi247 (C0 : CallFix p m c cL_build 19 s args wB RL) (hlo : lo ≤ s.heap.size) (hK : KW g s) (hRf : 8 ≤ R.frames) (hRl : 250 ≤ R.locals) {L : Nat} {xs : Nat → Int32} (hX : va_X b L xs s s.heap) (hb9 : b < lo) (hL : L ≤ 260) {ns nt pp aS aC aO C1 S1 : Nat} {FS : Nat → Option Nat} {rr : Nat → Nat} (hns1 : 1 ≤ ns) (hns3 : ns ≤ 3) (hnt : nt ≤ 4) (hC1 : C1 ≤ R.cells) (hS1 : S1 ≤ R.slots) : ∀ (k9 k : Nat) (h : Sh) (σ : Sg) (Xk : Nat → Option va_E) (B : Ab) (aB : Nat) (FB : Nat → Option Nat) (cells slots : Nat) (H : Heap) (locs : List Loc) (ls : Array Slot), k + k9 = nt → h.1 = ns → h.2.1 = k → h.2.2 0 0 = pp → cells + 60 * k9 ≤ C1 → slots + 1000 * k9 ≤ S1 → Cm B h.1 h.2.1 σ → Wf B h.1 h.2.1 1 → BI k B → SB g Xk sim aS aC aB aO ns FS rr → Xk aB = some (Er FB k (g.2.2.2.1 3)) → (∀ b9, b9 < k → ∃ qb, FB b9 = some qb ∧ LB g Xk B b9 qb) → FW (gX g Xk) h (Ax lo) σ H → va_S (Ax lo) s.heap H locs → lv_has ls 19 [(0, .ref (pp)), (1, .ref (b)), (2, .int (nI (30000))), (3, .ref (sim)), (4, .int (nI (ns))), (5, .int (nI (nt))), (6, .int (nI (k)))] →
    (∀ (h : Sh) (σ : Sg) (X : Nat → Option va_E) (B : Ab) (aB : Nat) (FB : Nat → Option Nat) (H : Heap) (locs : List Loc) (ls : Array Slot), h.1 = ns → h.2.1 = nt → h.2.2 0 0 = pp → Cm B h.1 h.2.1 σ → Wf B h.1 h.2.1 1 → BI nt B → SB g X sim aS aC aB aO ns FS rr → X aB = some (Er FB nt (g.2.2.2.1 3)) → (∀ b9, b9 < nt → ∃ qb, FB b9 = some qb ∧ LB g X B b9 qb) → FW (gX g X) h (Ax lo) σ H → va_S (Ax lo) s.heap H locs → lv_has ls 19 [(0, .ref (pp)), (1, .ref (b)), (2, .int (nI (30000))), (3, .ref (sim)), (4, .int (nI (ns))), (5, .int (nI (nt)))] → W p l e R s m args below meth c H locs C1 S1 Q (F0 m 928 ls [])) → W p l e R s m args below meth c H locs cells slots Q (F0 m 247 ls []) := by
  have hx := C0.1
  have hb := C0.2.1
  have hA : ∀ q : Nat, s.heap.size ≤ q → Ax lo q := fun q hq => Nat.le_trans hlo hq
  intro k9
  induction k9 with
  | zero =>
    intro k h σ Xk B aB FB cells slots H locs ls hk hk1 hk2 hpp hc9 hs9 hC hF hB hSB hXB hLB hW hS hl kk
    have hkn : k = nt := by omega
    subst hkn
    refine lv_iload hx hb dL_build_247 (lv_at hl 6 rfl) ?_
    refine lv_iload hx hb dL_build_249 (lv_at hl 5 rfl) ?_
    refine lv_icmp_ge (tgt := 928) hx hb dL_build_251 (by decide) (fun _ => ?_) (fun c9 => absurd (nI_le (by omega) (by omega)) c9)
    exact W.widen (by omega) (by omega) (kk h σ Xk B aB FB H locs ls hk1 hk2 hpp hC hF hB hSB hXB hLB hW hS (lv_sub hl [0, 1, 2, 3, 4, 5] rfl))
  | succ k9 ih =>
    intro k h σ Xk B aB FB cells slots H locs ls hk hk1 hk2 hpp hc9 hs9 hC hF hB hSB hXB hLB hW hS hl kk
    rw [← hpp] at hl
    refine lv_iload hx hb dL_build_247 (lv_at hl 6 rfl) ?_
    refine lv_iload hx hb dL_build_249 (lv_at hl 5 rfl) ?_
    refine lv_icmp_ge (tgt := 928) hx hb dL_build_251 (by decide) (fun c9 => absurd c9 (nI_ge (by omega) (by omega))) (fun _ => ?_)
    refine lv_aload_n hx hb dL_build_254 rfl (lv_at hl 1 rfl) ?_
    refine lv_iconst (v := nI 4) hx hb dL_build_255 (by decide) ?_
    refine lv_iload hx hb dL_build_256 (lv_at hl 6 rfl) ?_
    refine lv_iadd hx hb dL_build_258 ?_
    rw [nI_add]
    refine cCell C0 hlo hK hW hS (k := 4 + k) hX hb9 hL (by omega) hRf hRl (by omega) (by omega) hl.1 (Nat.le_of_ble_eq_true rfl) dL_build_259 (fun xv H locs hW hS => ?_)
    refine lv_istore (lv' := [(7, .int (xv)), (0, .ref (h.2.2 0 0)), (1, .ref (b)), (2, .int (nI (30000))), (3, .ref (sim)), (4, .int (nI (ns))), (5, .int (nI (nt))), (6, .int (nI (k)))]) hx hb dL_build_262 hl (by decide) rfl (fun ls hl => ?_)
    refine xno (ci := 5) (C := RX5) (T := TX5) (N := 12) (fs := [.int 0, .int 0, .int 0, .int 0, .int 0, .int 0, .long 0, .long 0, .int 0, .null, .null, .null]) C0 hK hW hS hA inX5_B tyX5_ok wCL_L_36 wIS_X5 wIN_X5 rfl (fun j hj => by rcases (show j = 0 ∨ j = 1 ∨ j = 2 ∨ j = 3 ∨ j = 4 ∨ j = 5 ∨ j = 6 ∨ j = 7 ∨ j = 8 ∨ j = 9 ∨ j = 10 ∨ j = 11 by omega) with rfl | rfl | rfl | rfl | rfl | rfl | rfl | rfl | rfl | rfl | rfl | rfl <;> rfl) (by omega) (by omega) dL_build_264 (fun q H hq hW hS => ?_)
    refine lv_dup hx hb dL_build_267 rfl ?_
    refine cNewBird C0 hlo hK hW hS (xU_self _ _ _) hRf hRl (by omega) (by omega) hl.1 (Nat.le_of_ble_eq_true rfl) dL_build_268 (fun X1 a1 a2 a3 r3 f3 H locs e1 e2 e3 e4 e5 e6 e7 e8 hW hS => ?_)
    have nq : ∀ a e9, Xk a = some e9 → a ≠ q := fun a e9 ha z => by rw [z, hq] at ha; cases ha
    have na1 : a1 ≠ q := fun z => by rw [z, e2] at e3; cases e3
    have na2 : a2 ≠ q := fun z => by rw [z, e2] at e4; cases e4
    have na3 : a3 ≠ q := fun z => by rw [z, e2] at e7; cases e7
    have nr3 : ∀ u, u < 3 → r3 u ≠ q ∧ r3 u ≠ a2 := fun u hu => ⟨fun z => (by have := e5 u hu; rw [z, e2] at this; cases this), fun z => (by have := e5 u hu; rw [z, e4] at this; exact absurd (inl_n this) (show ¬ (3 : Nat) = 0 by decide))⟩
    have n32 : a2 ≠ a3 := fun z => by rw [z, e7] at e4; exact er_ei e4.symm
    have le1 : xLe Xk X1 := fun a e9 ha => e1 a e9 (nq a e9 ha) ((xU_ne (nq a e9 ha)).trans ha)
    have hka2 : Xk a2 = none := by
      cases ez : Xk a2 with
      | none => rfl
      | some e9 => exact absurd rfl (e8 a2 e9 na2 ((xU_ne na2).trans ez)).2.1
    have hka3 : Xk a3 = none := by
      cases ez : Xk a3 with
      | none => rfl
      | some e9 => exact absurd rfl (e8 a3 e9 na3 ((xU_ne na3).trans ez)).2.2.1
    refine lv_astore (lv' := [(8, .ref (q)), (7, .int (xv)), (0, .ref (h.2.2 0 0)), (1, .ref (b)), (2, .int (nI (30000))), (3, .ref (sim)), (4, .int (nI (ns))), (5, .int (nI (nt))), (6, .int (nI (k)))]) hx hb dL_build_271 hl (by decide) rfl (fun ls hl => ?_)
    refine lv_aload hx hb dL_build_273 (lv_at hl 0 rfl) ?_
    refine lv_iload hx hb dL_build_275 (lv_at hl 1 rfl) ?_
    refine lv_iload hx hb dL_build_277 (lv_at hl 6 rfl) ?_
    refine cBelow C0 hlo hK hW hS (n := ns) (by omega) (by omega) hRf hRl (by omega) (by omega) hl.1 (Nat.le_of_ble_eq_true rfl) dL_build_279 (fun js H locs hjs hW hS => ?_)
    refine xpf (ci := 5) (C := RX5) (T := TX5) (N := 12) C0 hK hW hS e2 rfl inX5_B tyX5_ok nmX5 0 (by decide) wFL_L_50 rfl rfl rfl rfl (Nat.le_of_ble_eq_true rfl) dL_build_282 (fun H locs hW hS => ?_)
    have hW : FW (gX g (xU X1 q (birdE (nI (js)) 0 0 0 0 a1 a2 a3))) h (Ax lo) σ H := hW
    refine lv_aload hx hb dL_build_285 (lv_at hl 0 rfl) ?_
    refine lv_iload hx hb dL_build_287 (lv_at hl 1 rfl) ?_
    refine lv_iconst (v := nI 2) hx hb dL_build_289 (by decide) ?_
    refine lv_ishr hx hb dL_build_290 ?_
    refine lv_bipush (v := nI 21) hx hb dL_build_291 (by decide) ?_
    refine cBelow C0 hlo hK hW hS (n := 21) (by decide) (by decide) hRf hRl (by omega) (by omega) hl.1 (Nat.le_of_ble_eq_true rfl) dL_build_293 (fun jw H locs hjw hW hS => ?_)
    refine xpf (ci := 5) (C := RX5) (T := TX5) (N := 12) C0 hK hW hS (xU_self _ _ _) rfl inX5_B tyX5_ok nmX5 1 (by decide) wFL_L_54 rfl rfl rfl rfl (Nat.le_of_ble_eq_true rfl) dL_build_296 (fun H locs hW hS => ?_)
    rw [xU_tw] at hW
    have hW : FW (gX g (xU X1 q (birdE (nI (js)) (nI (jw)) 0 0 0 a1 a2 a3))) h (Ax lo) σ H := hW
    refine lv_aload hx hb dL_build_299 (lv_at hl 0 rfl) ?_
    refine lv_bipush (v := nI 8) hx hb dL_build_301 (by decide) ?_
    refine lv_iload hx hb dL_build_303 (lv_at hl 1 rfl) ?_
    refine lv_iconst (v := nI 4) hx hb dL_build_305 (by decide) ?_
    refine lv_ishr hx hb dL_build_306 ?_
    refine lv_bipush (v := nI 30) hx hb dL_build_307 (by decide) ?_
    refine cBelow C0 hlo hK hW hS (n := 30) (by decide) (by decide) hRf hRl (by omega) (by omega) hl.1 (Nat.le_of_ble_eq_true rfl) dL_build_309 (fun jn H locs hjn hW hS => ?_)
    refine lv_iadd hx hb dL_build_312 ?_
    rw [nI_add]
    refine xpf (ci := 5) (C := RX5) (T := TX5) (N := 12) C0 hK hW hS (xU_self _ _ _) rfl inX5_B tyX5_ok nmX5 2 (by decide) wFL_L_57 rfl rfl rfl rfl (Nat.le_of_ble_eq_true rfl) dL_build_313 (fun H locs hW hS => ?_)
    rw [xU_tw] at hW
    have hW : FW (gX g (xU X1 q (birdE (nI (js)) (nI (jw)) (nI (8 + jn)) 0 0 a1 a2 a3))) h (Ax lo) σ H := hW
    refine lv_aload hx hb dL_build_316 (lv_at hl 0 rfl) ?_
    refine lv_iconst (v := nI 1) hx hb dL_build_318 (by decide) ?_
    refine lv_iload hx hb dL_build_319 (lv_at hl 1 rfl) ?_
    refine lv_bipush (v := nI 6) hx hb dL_build_321 (by decide) ?_
    refine lv_ishr hx hb dL_build_323 ?_
    refine lv_bipush (v := nI 12) hx hb dL_build_324 (by decide) ?_
    refine cBelow C0 hlo hK hW hS (n := 12) (by decide) (by decide) hRf hRl (by omega) (by omega) hl.1 (Nat.le_of_ble_eq_true rfl) dL_build_326 (fun jp H locs hjp hW hS => ?_)
    refine lv_iadd hx hb dL_build_329 ?_
    rw [nI_add]
    refine xpf (ci := 5) (C := RX5) (T := TX5) (N := 12) C0 hK hW hS (xU_self _ _ _) rfl inX5_B tyX5_ok nmX5 3 (by decide) wFL_L_60 rfl rfl rfl rfl (Nat.le_of_ble_eq_true rfl) dL_build_330 (fun H locs hW hS => ?_)
    rw [xU_tw] at hW
    have hW : FW (gX g (xU X1 q (birdE (nI (js)) (nI (jw)) (nI (8 + jn)) (nI (1 + jp)) 0 a1 a2 a3))) h (Ax lo) σ H := hW
    refine lv_aload hx hb dL_build_333 (lv_at hl 0 rfl) ?_
    refine lv_iconst (v := nI 1) hx hb dL_build_335 (by decide) ?_
    refine lv_iload hx hb dL_build_336 (lv_at hl 1 rfl) ?_
    refine lv_bipush (v := nI 9) hx hb dL_build_338 (by decide) ?_
    refine lv_ishr hx hb dL_build_340 ?_
    refine lv_bipush (v := nI 12) hx hb dL_build_341 (by decide) ?_
    refine cBelow C0 hlo hK hW hS (n := 12) (by decide) (by decide) hRf hRl (by omega) (by omega) hl.1 (Nat.le_of_ble_eq_true rfl) dL_build_343 (fun jq H locs hjq hW hS => ?_)
    refine lv_iadd hx hb dL_build_346 ?_
    rw [nI_add]
    refine xpf (ci := 5) (C := RX5) (T := TX5) (N := 12) C0 hK hW hS (xU_self _ _ _) rfl inX5_B tyX5_ok nmX5 4 (by decide) wFL_L_63 rfl rfl rfl rfl (Nat.le_of_ble_eq_true rfl) dL_build_347 (fun H locs hW hS => ?_)
    rw [xU_tw] at hW
    have hW : FW (gX g (xU X1 q (birdE (nI (js)) (nI (jw)) (nI (8 + jn)) (nI (1 + jp)) (nI (1 + jq)) a1 a2 a3))) h (Ax lo) σ H := hW
    obtain ⟨X2, eX2⟩ : ∃ X2, X2 = xU X1 q (birdE (nI (js)) (nI (jw)) (nI (8 + jn)) (nI (1 + jp)) (nI (1 + jq)) a1 a2 a3) := ⟨_, rfl⟩
    rw [← eX2] at hW
    have hq2 : X2 q = some (birdE (nI (js)) (nI (jw)) (nI (8 + jn)) (nI (1 + jp)) (nI (1 + jq)) a1 a2 a3) := by rw [eX2]; exact xU_self _ _ _
    have ne2 : xNe X1 X2 q := fun a e9 n9 h9 => by rw [eX2]; exact (xU_ne n9).trans h9
    refine lv_aload_n hx hb dL_build_350 rfl (lv_at hl 2 rfl) ?_
    refine lv_aload hx hb dL_build_351 (lv_at hl 0 rfl) ?_
    refine xgf (ci := 5) (C := RX5) (T := TX5) (N := 12) C0 hK hW hq2 rfl inX5_B 0 (by decide) wFL_L_50 rfl rfl dL_build_353 ?_
    refine lv_aload hx hb dL_build_356 (lv_at hl 0 rfl) ?_
    refine xgf (ci := 5) (C := RX5) (T := TX5) (N := 12) C0 hK hW hq2 rfl inX5_B 1 (by decide) wFL_L_54 rfl rfl dL_build_358 ?_
    refine lv_aload hx hb dL_build_361 (lv_at hl 0 rfl) ?_
    refine xgf (ci := 5) (C := RX5) (T := TX5) (N := 12) C0 hK hW hq2 rfl inX5_B 2 (by decide) wFL_L_57 rfl rfl dL_build_363 ?_
    refine lv_aload hx hb dL_build_366 (lv_at hl 0 rfl) ?_
    refine xgf (ci := 5) (C := RX5) (T := TX5) (N := 12) C0 hK hW hq2 rfl inX5_B 3 (by decide) wFL_L_60 rfl rfl dL_build_368 ?_
    refine lv_aload hx hb dL_build_371 (lv_at hl 0 rfl) ?_
    refine xgf (ci := 5) (C := RX5) (T := TX5) (N := 12) C0 hK hW hq2 rfl inX5_B 4 (by decide) wFL_L_63 rfl rfl dL_build_373 ?_
    have hF0 := hF
    refine cAddBird C0 hlo hK hW hS hC hF (by omega) (i := js) (u := jw) (n := 8 + jn) (x := 1 + jp) (y := 1 + jq) (by omega) (by omega) (by omega) (by omega) (by omega) (by omega) (by omega) (by omega) hRf hRl (by omega) (by omega) hl.1 (Nat.le_of_ble_eq_true rfl) dL_build_376 (fun v σ H locs hW hS hC hF => ?_)
    obtain ⟨h1, eh⟩ : ∃ h1, h1 = shB h v.1 v.2 := ⟨_, rfl⟩
    obtain ⟨B1, eB⟩ : ∃ B1, B1 = nbA B k js jw (8 + jn) (1 + jp) (1 + jq) := ⟨_, rfl⟩
    have g1 : h1.1 = ns := by rw [eh]; exact hk1
    have g2 : h1.2.1 = k + 1 := by rw [eh, ← hk2]; rfl
    have g3 : h1.2.2 0 0 = h.2.2 0 0 := by rw [eh]; exact shB_pp _ _ _
    have hW : FW (gX g X2) h1 (Ax lo) σ H := by rw [eh]; exact hW
    have hC : Cm B1 h1.1 h1.2.1 σ := by rw [eh, eB, ← hk2]; exact hC
    have hF : Wf B1 h1.1 h1.2.1 1 := by rw [eh, eB, ← hk2]; exact hF
    have hB1 : BI (k + 1) B1 := by rw [eB]; exact hB.addB
    have b62 : B1 6 k 2 = 8 + jn := by rw [eB]; simp [nbA]
    have b68 : B1 6 k 8 = 0 := by rw [eB]; simp [nbA]
    have b7 : ∀ x, B1 7 k x = 0 := fun x => by rw [eB]; exact (nbA_o (by omega)).trans (hF0.2.2.2.2.2.1.2.1 k (by omega) x)
    have b12 : ∀ u, u < 3 → ∀ y, B1 12 (3 * k + u) y = 0 := fun u hu y => by rw [eB]; exact (nbA_o (by omega)).trans (hF0.2.2.2.2.2.2.2.1.2.1 (3 * k + u) (by omega) y)
    have b8 : ∀ y, y < 6 → B1 8 k y = 60 + 2 * y := fun y hy => by rw [eB]; simp [nbA, hy]
    have bo : ∀ k9 i9 f9, ¬ ((k9 = 6 ∨ k9 = 8) ∧ i9 = k) → B1 k9 i9 f9 = B k9 i9 f9 := fun k9 i9 f9 hn => by rw [eB]; exact nbA_o hn
    rw [← g3] at hl
    rw [← b62] at hq2
    refine lv_iload hx hb dL_build_379 (lv_at hl 8 rfl) ?_
    refine lv_icmp_eq (tgt := 386) hx hb dL_build_381 (by decide) (fun _ => ?_) (fun c9 => absurd (congrArg nI (by omega)) c9)
    refine lv_aload_n hx hb dL_build_386 rfl (lv_at hl 3 rfl) ?_
    refine lv_bipush (v := nI 8) hx hb dL_build_387 (by decide) ?_
    refine lv_iload hx hb dL_build_389 (lv_at hl 8 rfl) ?_
    refine lv_iadd hx hb dL_build_391 ?_
    rw [nI_add]
    refine cCell C0 hlo hK hW hS (k := 8 + k) hX hb9 hL (by omega) hRf hRl (by omega) (by omega) hl.1 (Nat.le_of_ble_eq_true rfl) dL_build_392 (fun v9 H locs hW hS => ?_)
    refine lv_bipush (v := nI 9) hx hb dL_build_395 (by decide) ?_
    refine cBelow C0 hlo hK hW hS (n := 9) (by decide) (by decide) hRf hRl (by omega) (by omega) hl.1 (Nat.le_of_ble_eq_true rfl) dL_build_397 (fun pn H locs hpn hW hS => ?_)
    refine lv_istore (lv' := [(9, .int (nI (pn))), (8, .ref (q)), (7, .int (xv)), (0, .ref (h1.2.2 0 0)), (1, .ref (b)), (2, .int (nI (30000))), (3, .ref (sim)), (4, .int (nI (ns))), (5, .int (nI (nt))), (6, .int (nI (k)))]) hx hb dL_build_400 hl (by decide) rfl (fun ls hl => ?_)
    refine lv_iconst (v := nI 0) hx hb dL_build_402 (by decide) ?_
    refine lv_istore (lv' := [(10, .int (nI (0))), (9, .int (nI (pn))), (8, .ref (q)), (7, .int (xv)), (0, .ref (h1.2.2 0 0)), (1, .ref (b)), (2, .int (nI (30000))), (3, .ref (sim)), (4, .int (nI (ns))), (5, .int (nI (nt))), (6, .int (nI (k)))]) hx hb dL_build_403 hl (by decide) rfl (fun ls hl => ?_)
    refine pi405 (X0 := X2) (B0 := B1) (C1 := cells + 36) (S1 := slots + 833) C0 hlo hK hRf hRl hX hb9 hL (by omega) (by omega) (by omega) (by omega) (by omega) pn 0 σ X2 B1 a1 0 (fun _ => none) (fun _ => 0) (fun _ => 0) (fun _ => 0) (fun _ _ => 0) _ _ H locs ls (by omega) (by omega) (by omega) (Nat.le_refl 0) (PI.ini (ne2 _ _ na1 e3) b7 b68) hq2 hC hF (fun _ _ _ _ => rfl) xNe.rf hW hS (lv_sub hl [4, 5, 6, 7, 8, 9, 10, 3, 2, 1, 0] rfl) (fun σ X3 B2 a1 H locs ls hq3 hC hF hfr hne hW hS hl => ?_)
    refine lv_iconst (v := nI 0) hx hb dL_build_586 (by decide) ?_
    refine lv_istore (lv' := [(10, .int (nI (0))), (0, .ref (h1.2.2 0 0)), (1, .ref (b)), (2, .int (nI (30000))), (3, .ref (sim)), (4, .int (nI (ns))), (5, .int (nI (nt))), (6, .int (nI (k))), (7, .int (xv)), (8, .ref (q))]) hx hb dL_build_587 hl (by decide) rfl (fun ls hl => ?_)
    have c62 : B2 6 k 2 = B1 6 k 2 := hfr 6 k 2 (by omega)
    rw [← c62] at hq3
    have hCX0 : CX g Xk X3 B2 B2 k q a1 a2 a3 (nI js) (nI jw) (nI (1 + jp)) (nI (1 + jq)) (fun i => if i < 3 then some (r3 i) else none) (fun _ => 0) r3 (fun _ _ => none) (fun _ _ => 0) (fun _ _ => 0) (fun _ _ => 0) (fun _ _ _ => 0) :=
      ⟨CI.ini (fun u hu => ⟨hne _ _ (nr3 u hu).1 (ne2 _ _ (nr3 u hu).1 (e5 u hu)), (nr3 u hu).2⟩) (fun u hu y => (hfr 12 (3 * k + u) y (by omega)).trans (b12 u hu y)), fun a e9 h9 => hne _ _ (nq a e9 h9) (ne2 _ _ (nq a e9 h9) (le1 a e9 h9)), hne _ _ na2 (ne2 _ _ na2 e4), hq3, ⟨f3, hne _ _ na3 (ne2 _ _ na3 e7)⟩, fun _ _ _ _ => rfl⟩
    refine cm589 (C1 := cells + 54) (S1 := slots + 905) C0 hlo hK hRf hRl hX hb9 hL hka2 (by omega) (by omega) (by omega) (by omega) 3 0 σ X3 B2 _ _ _ _ _ _ _ _ _ _ H locs ls (by omega) (by omega) (by omega) (fun u9 h9 => absurd h9 (Nat.not_lt_zero u9)) (fun _ _ _ => rfl) hCX0 hC hF hW hS (lv_sub hl [1, 2, 3, 4, 5, 6, 7, 8, 9, 0] rfl) (fun σ X4 B3 fC M AR fl A x v F H locs ls hM hCX hC hF hW hS hl => ?_)
    refine lv_iload hx hb dL_build_817 (lv_at hl 7 rfl) ?_
    refine lv_iconst (v := nI 3) hx hb dL_build_819 (by decide) ?_
    refine lv_ishr hx hb dL_build_820 ?_
    refine lv_bipush (v := nI 6) hx hb dL_build_821 (by decide) ?_
    refine cBelow C0 hlo hK hW hS (n := 6) (by decide) (by decide) hRf hRl (by omega) (by omega) hl.1 (Nat.le_of_ble_eq_true rfl) dL_build_823 (fun le H locs hle hW hS => ?_)
    refine lv_istore (lv' := [(10, .int (nI (le))), (0, .ref (h1.2.2 0 0)), (1, .ref (b)), (2, .int (nI (30000))), (3, .ref (sim)), (4, .int (nI (ns))), (5, .int (nI (nt))), (6, .int (nI (k))), (7, .int (xv)), (8, .ref (q))]) hx hb dL_build_826 hl (by decide) rfl (fun ls hl => ?_)
    refine lv_iload hx hb dL_build_828 (lv_at hl 8 rfl) ?_
    refine lv_bipush (v := nI 7) hx hb dL_build_830 (by decide) ?_
    refine lv_ishr hx hb dL_build_832 ?_
    refine lv_bipush (v := nI 88) hx hb dL_build_833 (by decide) ?_
    refine cBelow C0 hlo hK hW hS (n := 88) (by decide) (by decide) hRf hRl (by omega) (by omega) hl.1 (Nat.le_of_ble_eq_true rfl) dL_build_835 (fun no H locs hno hW hS => ?_)
    refine lv_istore (lv' := [(11, .int (nI (no))), (10, .int (nI (le))), (0, .ref (h1.2.2 0 0)), (1, .ref (b)), (2, .int (nI (30000))), (3, .ref (sim)), (4, .int (nI (ns))), (5, .int (nI (nt))), (6, .int (nI (k))), (7, .int (xv)), (8, .ref (q))]) hx hb dL_build_838 hl (by decide) rfl (fun ls hl => ?_)
    refine lv_aload_n hx hb dL_build_840 rfl (lv_at hl 2 rfl) ?_
    refine lv_iload hx hb dL_build_841 (lv_at hl 8 rfl) ?_
    refine lv_iload hx hb dL_build_843 (lv_at hl 1 rfl) ?_
    refine lv_iload hx hb dL_build_845 (lv_at hl 0 rfl) ?_
    have d8 : B3 8 k le = 60 + 2 * le := (hCX.2.2.2.2.2 8 k le (by omega)).trans ((hfr 8 k le (by omega)).trans (b8 le hle))
    refine cTune C0 hlo hK hW hS hC hF (b := k) (y := le) (j := no) (by omega) hle (by omega) hRf hRl (by omega) (by omega) hl.1 (Nat.le_of_ble_eq_true rfl) dL_build_847 (fun σ H locs hW hS hC hF => ?_)
    rw [d8]
    refine lv_bipush (v := nI 60) hx hb dL_build_850 (by decide) ?_
    refine lv_iconst (v := nI 2) hx hb dL_build_852 (by decide) ?_
    refine lv_iload hx hb dL_build_853 (lv_at hl 1 rfl) ?_
    refine lv_imul hx hb dL_build_855 ?_
    rw [pk_mul]
    refine lv_iadd hx hb dL_build_856 ?_
    rw [nI_add]
    refine lv_icmp_eq (tgt := 862) hx hb dL_build_857 (by decide) (fun _ => ?_) (fun c9 => absurd (congrArg nI (by omega)) c9)
    obtain ⟨f4, h4⟩ := hCX.2.2.2.2.1
    obtain ⟨B4, eB4⟩ : ∃ B4, B4 = aU B3 8 k le no := ⟨_, rfl⟩
    rw [← eB4] at hC hF
    refine lv_aload hx hb dL_build_862 (lv_at hl 10 rfl) ?_
    refine xgf (ci := 5) (C := RX5) (T := TX5) (N := 12) C0 hK hW hCX.2.2.2.1 rfl inX5_B 11 (by decide) wFL_L_88 rfl rfl dL_build_864 ?_
    refine lv_iload hx hb dL_build_867 (lv_at hl 1 rfl) ?_
    refine lv_iload hx hb dL_build_869 (lv_at hl 0 rfl) ?_
    refine xis C0 hK hW hS h4 (nI_in (by omega) (by omega)) dL_build_871 (fun H locs hW hS => ?_)
    rw [nI_clamp (by omega)] at hW
    obtain ⟨X5, eX5⟩ : ∃ X5, X5 = xU X4 a3 (Ei (upd f4 le (nI no)) 6 g.2.1.1) := ⟨_, rfl⟩
    have hW : FW (gX g X5) h1 (Ax lo) σ H := by rw [eX5]; exact hW
    have d12 : ∀ i9 x9, B4 12 i9 x9 = B3 12 i9 x9 := fun i9 x9 => by rw [eB4]; exact aU_k (by decide)
    have d62 : ∀ i9, B4 6 i9 2 = B3 6 i9 2 := fun i9 => by rw [eB4]; exact aU_k (by decide)
    have hCI : CI g Xk X5 B4 k a2 fC M AR fl A x v F := by rw [eX5]; exact hCX.1.le (X' := X4) h4 (d62 k) (fun u _ => funext fun y => d12 _ y)
    have le5 : xLe Xk X5 := fun a e9 h9 => by rw [eX5]; exact (xU_ne (fun z => by rw [z, hka3] at h9; cases h9)).trans (hCX.2.1 a e9 h9)
    have q5 := (show X5 q = X4 q by rw [eX5]; exact xU_ne na3.symm).trans hCX.2.2.2.1
    have a25 := (show X5 a2 = X4 a2 by rw [eX5]; exact xU_ne n32).trans hCX.2.2.1
    have hLk : LB g X5 B4 k q := hCI.lb hM q5 a25
    have hLo : ∀ b9, b9 < k → ∃ qb, FB b9 = some qb ∧ LB g X5 B4 b9 qb := fun b9 hb9 => by
      obtain ⟨qb, z1, z2⟩ := hLB b9 hb9
      exact ⟨qb, z1, z2.le2 le5 ((d62 b9).trans ((hCX.2.2.2.2.2 6 b9 2 (by omega)).trans ((hfr 6 b9 2 (by omega)).trans (bo 6 b9 2 (by omega))))) (fun c hc x => (d12 _ x).trans ((hCX.2.2.2.2.2 12 (3 * b9 + c) x (by omega)).trans ((hfr 12 (3 * b9 + c) x (by omega)).trans (bo 12 (3 * b9 + c) x (by omega)))))⟩
    have hB4 : BI (k + 1) B4 := by
      refine hB1.eq fun k9 i9 f9 hn => ?_
      rw [eB4, aU_eq, if_neg (by omega), hCX.2.2.2.2.2 k9 i9 f9 (by omega), hfr k9 i9 f9 (by omega)]
    refine lv_iload hx hb dL_build_872 (lv_at hl 8 rfl) ?_
    refine lv_iconst (v := nI 1) hx hb dL_build_874 (by decide) ?_
    refine lv_iadd hx hb dL_build_875 ?_
    rw [nI_add]
    refine xnb (N := k + 1) C0 hK hW hS hA wCL_L_36 (nI_pos (by omega)) (nI_clamp (by omega)) (by omega) (by omega) (by omega) dL_build_876 (fun q12 H h12 hW hS => ?_)
    refine lv_astore (lv' := [(12, .ref (q12)), (11, .int (nI (no))), (10, .int (nI (le))), (0, .ref (h1.2.2 0 0)), (1, .ref (b)), (2, .int (nI (30000))), (3, .ref (sim)), (4, .int (nI (ns))), (5, .int (nI (nt))), (6, .int (nI (k))), (7, .int (xv)), (8, .ref (q))]) hx hb dL_build_879 hl (by decide) rfl (fun ls hl => ?_)
    refine lv_iconst (v := nI 0) hx hb dL_build_881 (by decide) ?_
    refine lv_istore (lv' := [(13, .int (nI (0))), (12, .ref (q12)), (11, .int (nI (no))), (10, .int (nI (le))), (0, .ref (h1.2.2 0 0)), (1, .ref (b)), (2, .int (nI (30000))), (3, .ref (sim)), (4, .int (nI (ns))), (5, .int (nI (nt))), (6, .int (nI (k))), (7, .int (xv)), (8, .ref (q))]) hx hb dL_build_882 hl (by decide) rfl (fun ls hl => ?_)
    refine al884 (aS := aS) (aC := aC) (aB := aB) (aO := aO) (FB := FB) C0 hK (by omega) (le5 _ _ hSB.1) (le5 _ _ hXB) (fun j hj => ?_) h12 k 0 H locs ls (by omega) (by simpa using hW) hS (lv_sub hl [4, 5, 6, 7, 8, 9, 10, 11, 12, 3, 2, 1, 0] rfl) (fun H locs ls hW hS hl => ?_)
    · obtain ⟨qb, z1, z2⟩ := hLo j hj
      obtain ⟨z, z3⟩ := z2.bd
      exact ⟨qb, z, z1, z3⟩
    refine lv_aload hx hb dL_build_909 (lv_at hl 11 rfl) ?_
    refine lv_iload hx hb dL_build_911 (lv_at hl 6 rfl) ?_
    refine lv_aload hx hb dL_build_913 (lv_at hl 8 rfl) ?_
    refine xrsO C0 hK hW hS (xU_self _ _ _) (xLe.nw h12 _ _ q5) (nI_in (by omega) (by omega)) dL_build_915 (fun H locs hW hS => ?_)
    rw [xU_tw, nI_clamp (by omega)] at hW
    obtain ⟨FB2, eFB⟩ : ∃ FB2, FB2 = va_up (fun j => if j < k then FB j else none) k (some q) := ⟨_, rfl⟩
    rw [← eFB] at hW
    have hW : FW (gX g (xU X5 q12 (Er FB2 (k + 1) (g.2.2.2.1 3)))) h1 (Ax lo) σ H := hW
    have le6 : xLe X5 (xU X5 q12 (Er FB2 (k + 1) (g.2.2.2.1 3))) := xLe.nw h12
    have w6 := xU_self X5 q12 (Er FB2 (k + 1) (g.2.2.2.1 3))
    generalize xU X5 q12 (Er FB2 (k + 1) (g.2.2.2.1 3)) = X6 at hW le6 w6
    have hSB6 := (hSB.le le5).le le6
    refine lv_aload_n hx hb dL_build_916 rfl (lv_at hl 3 rfl) ?_
    refine lv_aload hx hb dL_build_917 (lv_at hl 11 rfl) ?_
    refine xpf (ci := 6) (C := RX6) (T := TX6) (N := 6) C0 hK hW hS hSB6.1 rfl inX6_B tyX6_ok nmX6 3 (by decide) wFL_L_92 rfl rfl rfl rfl (Nat.le_of_ble_eq_true rfl) dL_build_919 (fun H locs hW hS => ?_)
    have hW : FW (gX g (xU X6 sim (simE aS aC q12 aO))) h1 (Ax lo) σ H := hW
    obtain ⟨hSB7, hli⟩ := hSB6.put (aB' := q12) hSB6.2.1 hSB6.2.2.1
    refine lv_iinc (v := nI (k + 1)) (lv' := [(6, .int (nI (k + 1))), (0, .ref (h1.2.2 0 0)), (1, .ref (b)), (2, .int (nI (30000))), (3, .ref (sim)), (4, .int (nI (ns))), (5, .int (nI (nt))), (7, .int (xv)), (8, .ref (q)), (10, .int (nI (le))), (11, .int (nI (no))), (12, .ref (q12))]) hx hb dL_build_922 hl (k := 6) rfl (nI_1 _) (by decide) rfl (fun ls hl => ?_)
    refine lv_goto (tgt := 247) hx hb dL_build_925 (by decide) ?_
    refine ih (k + 1) h1 σ _ B4 q12 FB2 _ _ H locs ls (by omega) g1 g2 (g3.trans hpp) (by omega) (by omega) hC hF hB4 hSB7 (hli _ _ w6) (fun b9 hb9 => ?_) hW hS ?_ kk
    · by_cases hbk : b9 = k
      · exact ⟨q, by rw [hbk, eFB]; exact va_up_self _ _ _, by rw [hbk]; exact (hLk.le le6 rfl (fun _ _ => rfl)).sm hSB6.1 (fun a e9 n9 h9 => (xU_ne n9).trans h9)⟩
      · obtain ⟨qb, z1, z2⟩ := hLo b9 (by omega)
        exact ⟨qb, by rw [eFB, va_up_ne _ _ hbk, if_pos (by omega)]; exact z1, (z2.le le6 rfl (fun _ _ => rfl)).sm hSB6.1 (fun a e9 n9 h9 => (xU_ne n9).trans h9)⟩
    · rw [← hpp, ← g3]
      exact lv_sub hl [1, 2, 3, 4, 5, 6, 0] rfl
end LAWG
