/-! THE LAW'S LOOPS -/
abbrev Ei (F : Nat → Int32) (n : Nat) (cA : ClassId) : va_E := .inl (cA, n, .inl F)
abbrev El (F : Nat → Int64) (n : Nat) (cA : ClassId) : va_E := .inl (cA, n, .inr (.inl F))
/-- a bird of the law's: its cams' points lie in the parlour's cams -/
def LB (g : Gx) (X : Nat → Option va_E) (B : Ab) (b q : Nat) : Prop := ∃ (s w n p q' : Int32) (a1 a2 a3 : Nat) (fC : Nat → Option Nat), X q = some (birdE s w n p q' a1 a2 a3) ∧ X a2 = some (Er fC 3 (g.2.2.2.1 1)) ∧ ∀ c, c < 3 → ∃ (ar m : Nat) (f : Nat → Option Nat), fC c = some ar ∧ X ar = some (Er f m (g.2.2.2.1 0)) ∧ m ≤ 3 ∧ ∀ i, i < m → ∃ (a x v : Nat) (F : Nat → Int32), f i = some a ∧ X a = some (Ei F 2 g.2.1.1) ∧ x < B 6 b 2 ∧ v ≤ 100 ∧ B 12 (3 * b + c) x = v + 1 ∧ F 1 = nI v
/-- the law's own parlour -/
def SM (g : Gx) (X : Nat → Option va_E) (ns nb sim : Nat) (B : Ab) : Prop := ∃ (aS aC aB aO : Nat) (FS FB : Nat → Option Nat), X sim = some (simE aS aC aB aO) ∧ X aS = some (Er FS ns (g.2.2.2.1 0)) ∧ X aB = some (Er FB nb (g.2.2.2.1 3)) ∧ ∀ b, b < nb → ∃ q, FB b = some q ∧ LB g X B b q
theorem LB.le {g : Gx} {X X' : Nat → Option va_E} {B B' : Ab} {b q : Nat} (h : LB g X B b q) (hx : xLe X X') (h2 : B' 6 b 2 = B 6 b 2) (h12 : ∀ k x, B' 12 k x = B 12 k x) : LB g X' B' b q := by
  obtain ⟨s, w, n, p, q', a1, a2, a3, fC, h1, h3, h4⟩ := h
  refine ⟨s, w, n, p, q', a1, a2, a3, fC, hx _ _ h1, hx _ _ h3, fun c hc => ?_⟩
  obtain ⟨ar, m, f, h5, h6, h7, h8⟩ := h4 c hc
  refine ⟨ar, m, f, h5, hx _ _ h6, h7, fun i hi => ?_⟩
  obtain ⟨a, x, v, F, g1, g2, g3, g4, g5, g6⟩ := h8 i hi
  exact ⟨a, x, v, F, g1, hx _ _ g2, by rw [h2]; exact g3, g4, by rw [h12]; exact g5, g6⟩
theorem SM.le {g : Gx} {X X' : Nat → Option va_E} {B B' : Ab} {ns nb sim : Nat} (h : SM g X ns nb sim B) (hx : xLe X X') (h2 : ∀ b, B' 6 b 2 = B 6 b 2) (h12 : ∀ k x, B' 12 k x = B 12 k x) : SM g X' ns nb sim B' := by
  obtain ⟨aS, aC, aB, aO, FS, FB, h1, h3, h4, h5⟩ := h
  refine ⟨aS, aC, aB, aO, FS, FB, hx _ _ h1, hx _ _ h3, hx _ _ h4, fun b hb => ?_⟩
  obtain ⟨q, q1, q2⟩ := h5 b hb
  exact ⟨q, q1, q2.le hx (h2 b) h12⟩
theorem cmpE (n : Nat) : lg_cmp (lN n) (lN n) = 0 := by
  unfold lg_cmp
  rw [if_neg (fun q => Int64.lt_irrefl (show lN n < lN n from q)), if_pos rfl]
theorem cmpG {a b : Nat} (h : b ≤ a) (ha : a < 2 ^ 31) : 0 ≤ lg_cmp (lN a) (lN b) := by
  unfold lg_cmp
  by_cases q : b = a
  · subst q
    rw [if_neg (fun z => Int64.lt_irrefl (show lN b < lN b from z)), if_pos rfl]
    decide
  · rw [if_pos (show lN b < lN a from (lN_lt (by omega) ha).mpr (by omega))]
    decide
section LAWA
variable {p : Program} {l : Launch} {e : Env} {R : Room} {s : State} {m : MethodId} {args : Array Value} {below : List Frame} {meth : Method} {c : Code} {H : Heap} {locs : List Loc} {cells slots : Nat} {Q : State → Prop}
variable {lo b sim : Nat} {ls : Array Slot} {g : Gx} {h : Sh} {σ : Sg} {X : Nat → Option va_E} {B : Ab}
theorem lp69 (C0 : CallFix p m c cL_law 26 s args wB RL) (hlo : lo ≤ s.heap.size) (hK : KW g s) (hRf : 8 ≤ R.frames) (hRl : 250 ≤ R.locals) (hc : cells ≤ R.cells) (hZ : slots ≤ R.slots) (hC : Cm B h.1 h.2.1 σ) (hF : Wf B h.1 h.2.1 1) {w N t q8 q9 : Nat} : ∀ (k9 k : Nat) (F : Nat → Int32) (H : Heap) (locs : List Loc) (ls : Array Slot), k + k9 = h.1 → FW (gX g (xU X q9 (Ei F h.1 g.2.1.1))) h (Ax lo) σ H → va_S (Ax lo) s.heap H locs → (∀ j, j < k → F j = nI (B 5 j 2)) → lv_has ls 26 [(0, .ref (b)), (1, .ref (h.2.2 0 0)), (2, .ref (sim)), (3, .int (nI (h.1))), (4, .int (nI (h.2.1))), (5, .int (nI (w))), (6, .int (nI (N))), (7, .int (nI (t))), (8, .ref (q8)), (9, .ref (q9)), (10, .int (nI (k)))] →
    (∀ (F : Nat → Int32) (H : Heap) (locs : List Loc) (ls : Array Slot), FW (gX g (xU X q9 (Ei F h.1 g.2.1.1))) h (Ax lo) σ H → va_S (Ax lo) s.heap H locs → (∀ j, j < h.1 → F j = nI (B 5 j 2)) → lv_has ls 26 [(0, .ref (b)), (1, .ref (h.2.2 0 0)), (2, .ref (sim)), (3, .int (nI (h.1))), (4, .int (nI (h.2.1))), (5, .int (nI (w))), (6, .int (nI (N))), (7, .int (nI (t))), (8, .ref (q8)), (9, .ref (q9))] → W p l e R s m args below meth c H locs cells slots Q (F0 m 93 ls [])) → W p l e R s m args below meth c H locs cells slots Q (F0 m 69 ls []) := by
  have hx := C0.1
  have hb := C0.2.1
  have h4 := hF.1
  intro k9
  induction k9 with
  | zero =>
    intro k F H locs ls hk hW hS hv hl kk
    refine lv_iload hx hb dL_law_69 (lv_at hl 10 rfl) ?_
    refine lv_iload_n hx hb dL_law_71 rfl (lv_at hl 3 rfl) ?_
    refine lv_icmp_ge (tgt := 93) hx hb dL_law_72 (by decide) (fun _ => ?_) (fun c9 => absurd (nI_le (by omega) (by omega)) c9)
    exact kk F H locs ls hW hS (fun j hj => hv j (by omega)) (lv_sub hl [0, 1, 2, 3, 4, 5, 6, 7, 8, 9] rfl)
  | succ k9 ih =>
    intro k F H locs ls hk hW hS hv hl kk
    refine lv_iload hx hb dL_law_69 (lv_at hl 10 rfl) ?_
    refine lv_iload_n hx hb dL_law_71 rfl (lv_at hl 3 rfl) ?_
    refine lv_icmp_ge (tgt := 93) hx hb dL_law_72 (by decide) (fun c9 => absurd c9 (nI_ge (by omega) (by omega))) (fun _ => ?_)
    refine lv_aload hx hb dL_law_75 (lv_at hl 9 rfl) ?_
    refine lv_iload hx hb dL_law_77 (lv_at hl 10 rfl) ?_
    refine lv_aload_n hx hb dL_law_79 rfl (lv_at hl 1 rfl) ?_
    refine lv_iload hx hb dL_law_80 (lv_at hl 10 rfl) ?_
    refine lv_iconst (v := nI 2) hx hb dL_law_82 (by decide) ?_
    refine cSpring C0 hlo hK hW hS hC hF (a := B 5 k 2) (by omega) (by decide) rfl hRf hRl hc hZ hl.1 (Nat.le_of_ble_eq_true rfl) dL_law_83 (fun H locs hW hS => ?_)
    refine xis C0 hK hW hS (xU_self _ _ _) (nI_in (by omega) (by omega)) dL_law_86 (fun H locs hW hS => ?_)
    rw [xU_tw, nI_clamp (by omega)] at hW
    refine lv_iinc (v := nI (k + 1)) (lv' := [(10, .int (nI (k + 1))), (0, .ref (b)), (1, .ref (h.2.2 0 0)), (2, .ref (sim)), (3, .int (nI (h.1))), (4, .int (nI (h.2.1))), (5, .int (nI (w))), (6, .int (nI (N))), (7, .int (nI (t))), (8, .ref (q8)), (9, .ref (q9))]) hx hb dL_law_87 hl (k := 10) rfl (nI_1 _) (by decide) rfl (fun ls hl => ?_)
    refine lv_goto (tgt := 69) hx hb dL_law_90 (by decide) ?_
    refine ih (k + 1) _ H locs ls (by omega) hW hS (fun j hj => ?_) (lv_sub hl [1, 2, 3, 4, 5, 6, 7, 8, 9, 10, 0] rfl) kk
    by_cases hjk : j = k
    · rw [hjk]; exact if_pos rfl
    · exact (if_neg hjk).trans (hv j (by omega))
theorem lp102 (C0 : CallFix p m c cL_law 26 s args wB RL) (hlo : lo ≤ s.heap.size) (hK : KW g s) (hRf : 8 ≤ R.frames) (hRl : 250 ≤ R.locals) (hc : cells ≤ R.cells) (hZ : slots ≤ R.slots) (hC : Cm B h.1 h.2.1 σ) (hF : Wf B h.1 h.2.1 1) {w N t q8 q9 q10 : Nat} : ∀ (k9 k : Nat) (F : Nat → Int64) (H : Heap) (locs : List Loc) (ls : Array Slot), k + k9 = h.2.1 → FW (gX g (xU X q10 (El F h.2.1 g.2.1.2.2.1))) h (Ax lo) σ H → va_S (Ax lo) s.heap H locs → (∀ j, j < k → F j = lN (B 6 j 11)) → lv_has ls 26 [(0, .ref (b)), (1, .ref (h.2.2 0 0)), (2, .ref (sim)), (3, .int (nI (h.1))), (4, .int (nI (h.2.1))), (5, .int (nI (w))), (6, .int (nI (N))), (7, .int (nI (t))), (8, .ref (q8)), (9, .ref (q9)), (10, .ref (q10)), (11, .int (nI (k)))] →
    (∀ (F : Nat → Int64) (H : Heap) (locs : List Loc) (ls : Array Slot), FW (gX g (xU X q10 (El F h.2.1 g.2.1.2.2.1))) h (Ax lo) σ H → va_S (Ax lo) s.heap H locs → (∀ j, j < h.2.1 → F j = lN (B 6 j 11)) → lv_has ls 26 [(0, .ref (b)), (1, .ref (h.2.2 0 0)), (2, .ref (sim)), (3, .int (nI (h.1))), (4, .int (nI (h.2.1))), (5, .int (nI (w))), (6, .int (nI (N))), (7, .int (nI (t))), (8, .ref (q8)), (9, .ref (q9)), (10, .ref (q10))] → W p l e R s m args below meth c H locs cells slots Q (F0 m 129 ls [])) → W p l e R s m args below meth c H locs cells slots Q (F0 m 102 ls []) := by
  have hx := C0.1
  have hb := C0.2.1
  have h8 := hF.2.1
  intro k9
  induction k9 with
  | zero =>
    intro k F H locs ls hk hW hS hv hl kk
    refine lv_iload hx hb dL_law_102 (lv_at hl 11 rfl) ?_
    refine lv_iload hx hb dL_law_104 (lv_at hl 4 rfl) ?_
    refine lv_icmp_ge (tgt := 129) hx hb dL_law_106 (by decide) (fun _ => ?_) (fun c9 => absurd (nI_le (by omega) (by omega)) c9)
    exact kk F H locs ls hW hS (fun j hj => hv j (by omega)) (lv_sub hl [0, 1, 2, 3, 4, 5, 6, 7, 8, 9, 10] rfl)
  | succ k9 ih =>
    intro k F H locs ls hk hW hS hv hl kk
    have hkb : k < h.2.1 := by omega
    have g1 := (goneB hF (by decide) hkb).1
    refine lv_iload hx hb dL_law_102 (lv_at hl 11 rfl) ?_
    refine lv_iload hx hb dL_law_104 (lv_at hl 4 rfl) ?_
    refine lv_icmp_ge (tgt := 129) hx hb dL_law_106 (by decide) (fun c9 => absurd c9 (nI_ge (by omega) (by omega))) (fun _ => ?_)
    refine lv_aload hx hb dL_law_109 (lv_at hl 10 rfl) ?_
    refine lv_iload hx hb dL_law_111 (lv_at hl 11 rfl) ?_
    refine lv_aload_n hx hb dL_law_113 rfl (lv_at hl 1 rfl) ?_
    refine lv_iload hx hb dL_law_114 (lv_at hl 11 rfl) ?_
    refine lv_bipush (v := nI 8) hx hb dL_law_116 (by decide) ?_
    refine cBird C0 hlo hK hW hS hC hF (a := B 6 k 11) hkb (by decide) rfl hRf hRl hc hZ hl.1 (Nat.le_of_ble_eq_true rfl) dL_law_118 (fun H locs hW hS => ?_)
    refine lv_i2l (v := lN (B 6 k 11)) hx hb dL_law_121 (nI_l (by omega)) ?_
    refine xls C0 hK hW hS (xU_self _ _ _) (nI_in (by omega) (by omega)) dL_law_122 (fun H locs hW hS => ?_)
    rw [xU_tw, nI_clamp (by omega)] at hW
    refine lv_iinc (v := nI (k + 1)) (lv' := [(11, .int (nI (k + 1))), (0, .ref (b)), (1, .ref (h.2.2 0 0)), (2, .ref (sim)), (3, .int (nI (h.1))), (4, .int (nI (h.2.1))), (5, .int (nI (w))), (6, .int (nI (N))), (7, .int (nI (t))), (8, .ref (q8)), (9, .ref (q9)), (10, .ref (q10))]) hx hb dL_law_123 hl (k := 11) rfl (nI_1 _) (by decide) rfl (fun ls hl => ?_)
    refine lv_goto (tgt := 102) hx hb dL_law_126 (by decide) ?_
    refine ih (k + 1) _ H locs ls (by omega) hW hS (fun j hj => ?_) (lv_sub hl [1, 2, 3, 4, 5, 6, 7, 8, 9, 10, 11, 0] rfl) kk
    by_cases hjk : j = k
    · rw [hjk]; exact if_pos rfl
    · exact (if_neg hjk).trans (hv j (by omega))
theorem lp259 (C0 : CallFix p m c cL_law 26 s args wB RL) (hlo : lo ≤ s.heap.size) (hK : KW g s) (hRf : 8 ≤ R.frames) (hRl : 250 ≤ R.locals) (hc : cells ≤ R.cells) (hZ : slots ≤ R.slots) (hC : Cm B h.1 h.2.1 σ) (hF : Wf B h.1 h.2.1 1) {G : Ab} (hp : Sp h.1 h.1 G B) {w N t q8 q9 q10 sd : Nat} {F9 : Nat → Int32} (hq9 : X q9 = some (Ei F9 h.1 g.2.1.1)) (hv9 : ∀ j, j < h.1 → F9 j = nI (G 5 j 2)) (h98 : q9 ≠ q8) : ∀ (k9 k : Nat) (F : Nat → Int32) (H : Heap) (locs : List Loc) (ls : Array Slot), k + k9 = h.1 → FW (gX g (xU X q8 (Ei F h.1 g.2.1.1))) h (Ax lo) σ H → va_S (Ax lo) s.heap H locs → lv_has ls 26 [(0, .ref (b)), (1, .ref (h.2.2 0 0)), (2, .ref (sim)), (3, .int (nI (h.1))), (4, .int (nI (h.2.1))), (5, .int (nI (w))), (6, .int (nI (N))), (7, .int (nI (t))), (8, .ref (q8)), (9, .ref (q9)), (10, .ref (q10)), (11, .int (nI (sd))), (12, .int (nI (fb_sm (fun i => B 5 i 1) k))), (13, .int (nI (fb_sm (fun i => B 5 i 2) k))), (14, .int (nI (k)))] →
    (∀ (F : Nat → Int32) (H : Heap) (locs : List Loc) (ls : Array Slot), FW (gX g (xU X q8 (Ei F h.1 g.2.1.1))) h (Ax lo) σ H → va_S (Ax lo) s.heap H locs → lv_has ls 26 [(0, .ref (b)), (1, .ref (h.2.2 0 0)), (2, .ref (sim)), (3, .int (nI (h.1))), (4, .int (nI (h.2.1))), (5, .int (nI (w))), (6, .int (nI (N))), (7, .int (nI (t))), (8, .ref (q8)), (9, .ref (q9)), (10, .ref (q10)), (11, .int (nI (sd))), (12, .int (nI (hs B h.1))), (13, .int (nI (ss B h.1)))] → W p l e R s m args below meth c H locs cells slots Q (F0 m 391 ls [])) → W p l e R s m args below meth c H locs cells slots Q (F0 m 259 ls []) := by
  have hx := C0.1
  have hb := C0.2.1
  have h4 := hF.1
  intro k9
  induction k9 with
  | zero =>
    intro k F H locs ls hk hW hS hl kk
    have hk1 : k = h.1 := by omega
    subst hk1
    refine lv_iload hx hb dL_law_259 (lv_at hl 14 rfl) ?_
    refine lv_iload_n hx hb dL_law_261 rfl (lv_at hl 3 rfl) ?_
    refine lv_icmp_ge (tgt := 391) hx hb dL_law_262 (by decide) (fun _ => ?_) (fun c9 => absurd (nI_le (by omega) (by omega)) c9)
    exact kk F H locs ls hW hS (lv_sub hl [0, 1, 2, 3, 4, 5, 6, 7, 8, 9, 10, 11, 12, 13] rfl)
  | succ k9 ih =>
    intro k F H locs ls hk hW hS hl kk
    have hkn : k < h.1 := by omega
    obtain ⟨p1, p2, p3⟩ := (hp k hkn).1 hkn
    obtain ⟨-, -, b3, b4, -⟩ := hF.2.2.2.1.1 k hkn
    have b6 := hF.2.2.1
    have hl6 : 10 ≤ loadA B h.2.1 k := by unfold loadA; omega
    have hl7 : loadA B h.2.1 k < 2 ^ 31 := by have := loadA_bd (s := k) hF; omega
    refine lv_iload hx hb dL_law_259 (lv_at hl 14 rfl) ?_
    refine lv_iload_n hx hb dL_law_261 rfl (lv_at hl 3 rfl) ?_
    refine lv_icmp_ge (tgt := 391) hx hb dL_law_262 (by decide) (fun c9 => absurd c9 (nI_ge (by omega) (by omega))) (fun _ => ?_)
    refine lv_aload hx hb dL_law_265 (lv_at hl 8 rfl) ?_
    refine lv_iload hx hb dL_law_267 (lv_at hl 14 rfl) ?_
    refine lv_aload_n hx hb dL_law_269 rfl (lv_at hl 1 rfl) ?_
    refine lv_iload hx hb dL_law_270 (lv_at hl 14 rfl) ?_
    refine lv_iconst (v := nI 1) hx hb dL_law_272 (by decide) ?_
    refine cSpring C0 hlo hK hW hS hC hF (a := B 5 k 1) hkn (by decide) rfl hRf hRl hc hZ hl.1 (Nat.le_of_ble_eq_true rfl) dL_law_273 (fun H locs hW hS => ?_)
    refine xis C0 hK hW hS (xU_self _ _ _) (nI_in (by omega) (by omega)) dL_law_276 (fun H locs hW hS => ?_)
    rw [xU_tw, nI_clamp (by omega)] at hW
    obtain ⟨F2, eF2⟩ : ∃ F2, F2 = upd F k (nI (B 5 k 1)) := ⟨_, rfl⟩
    have f2k : F2 k = nI (B 5 k 1) := by rw [eF2]; exact if_pos rfl
    rw [← eF2] at hW
    refine lv_aload_n hx hb dL_law_277 rfl (lv_at hl 1 rfl) ?_
    refine lv_iload hx hb dL_law_278 (lv_at hl 14 rfl) ?_
    refine lv_iconst (v := nI 3) hx hb dL_law_280 (by decide) ?_
    refine cSpring C0 hlo hK hW hS hC hF (a := B 5 k 3) hkn (by decide) rfl hRf hRl hc hZ hl.1 (Nat.le_of_ble_eq_true rfl) dL_law_281 (fun H locs hW hS => ?_)
    refine lv_istore (lv' := [(15, .int (nI (B 5 k 3))), (0, .ref (b)), (1, .ref (h.2.2 0 0)), (2, .ref (sim)), (3, .int (nI (h.1))), (4, .int (nI (h.2.1))), (5, .int (nI (w))), (6, .int (nI (N))), (7, .int (nI (t))), (8, .ref (q8)), (9, .ref (q9)), (10, .ref (q10)), (11, .int (nI (sd))), (12, .int (nI (fb_sm (fun i => B 5 i 1) k))), (13, .int (nI (fb_sm (fun i => B 5 i 2) k))), (14, .int (nI (k)))]) hx hb dL_law_284 hl (by decide) rfl (fun ls hl => ?_)
    refine lv_aload hx hb dL_law_286 (lv_at hl 9 rfl) ?_
    refine lv_iload hx hb dL_law_288 (lv_at hl 15 rfl) ?_
    refine xil C0 hK hW (xU_self _ _ _) (nI_in (by omega) (by omega)) dL_law_290 ?_
    rw [nI_clamp (by omega), f2k]
    refine lv_if_lt (tgt := 361) hx hb dL_law_291 (by decide) (fun c9 => absurd c9 (nI_pos (by omega))) (fun _ => ?_)
    refine lv_aload hx hb dL_law_294 (lv_at hl 9 rfl) ?_
    refine lv_iload hx hb dL_law_296 (lv_at hl 15 rfl) ?_
    refine xil C0 hK hW (xU_self _ _ _) (nI_in (by omega) (by omega)) dL_law_298 ?_
    rw [nI_clamp (by omega), f2k]
    refine lv_ldc (v := nI 200000) hx hb C0.2.2.2.1 (C0.2.2.2.2 _ wconstant_L_109) dL_law_299 ?_
    refine lv_icmp_gt (tgt := 361) hx hb dL_law_301 (by decide) (fun c9 => absurd c9 (nI_nlt (by omega) (by omega))) (fun _ => ?_)
    refine lv_iload hx hb dL_law_304 (lv_at hl 0 rfl) ?_
    refine lv_if_lt (tgt := 361) hx hb dL_law_306 (by decide) (fun c9 => absurd c9 (nI_pos (by omega))) (fun _ => ?_)
    refine lv_iload hx hb dL_law_309 (lv_at hl 0 rfl) ?_
    refine lv_sipush (v := nI 400) hx hb dL_law_311 (by decide) ?_
    refine lv_icmp_gt (tgt := 361) hx hb dL_law_314 (by decide) (fun c9 => absurd c9 (nI_nlt (by omega) (by omega))) (fun _ => ?_)
    refine lv_aload_n hx hb dL_law_317 rfl (lv_at hl 2 rfl) ?_
    refine lv_iload hx hb dL_law_318 (lv_at hl 15 rfl) ?_
    refine lv_iconst (v := nI 2) hx hb dL_law_320 (by decide) ?_
    refine cSpring C0 hlo hK hW hS hC hF (a := B 5 k 2) hkn (by decide) rfl hRf hRl hc hZ hl.1 (Nat.le_of_ble_eq_true rfl) dL_law_321 (fun H locs hW hS => ?_)
    refine lv_aload hx hb dL_law_324 (lv_at hl 10 rfl) ?_
    refine lv_iload hx hb dL_law_326 (lv_at hl 15 rfl) ?_
    refine xil C0 hK hW ((xU_ne h98).trans hq9) (nI_in (by omega) (by omega)) dL_law_328 ?_
    rw [nI_clamp (by omega), hv9 k hkn]
    refine lv_iload hx hb dL_law_329 (lv_at hl 0 rfl) ?_
    refine lv_iadd hx hb dL_law_331 ?_
    rw [nI_add]
    refine lv_icmp_ne (tgt := 361) hx hb dL_law_332 (by decide) (fun c9 => absurd (congrArg nI (by omega)) c9) (fun _ => ?_)
    refine lv_aload_n hx hb dL_law_335 rfl (lv_at hl 2 rfl) ?_
    refine lv_iload hx hb dL_law_336 (lv_at hl 15 rfl) ?_
    refine lv_bipush (v := nI 6) hx hb dL_law_338 (by decide) ?_
    refine cSpring C0 hlo hK hW hS hC hF (a := loadA B h.2.1 k) hkn (by decide) rfl hRf hRl hc hZ hl.1 (Nat.le_of_ble_eq_true rfl) dL_law_340 (fun H locs hW hS => ?_)
    refine lv_bipush (v := nI 10) hx hb dL_law_343 (by decide) ?_
    refine lv_icmp_lt (tgt := 361) hx hb dL_law_345 (by decide) (fun c9 => absurd c9 (nI_nlt (by omega) (by omega))) (fun _ => ?_)
    refine lv_iload hx hb dL_law_348 (lv_at hl 0 rfl) ?_
    have key : ∀ (H : Heap) (locs : List Loc) (ls : Array Slot), FW (gX g (xU X q8 (Ei F2 h.1 g.2.1.1))) h (Ax lo) σ H → va_S (Ax lo) s.heap H locs → lv_has ls 26 [(15, .int (nI (B 5 k 3))), (0, .ref (b)), (1, .ref (h.2.2 0 0)), (2, .ref (sim)), (3, .int (nI (h.1))), (4, .int (nI (h.2.1))), (5, .int (nI (w))), (6, .int (nI (N))), (7, .int (nI (t))), (8, .ref (q8)), (9, .ref (q9)), (10, .ref (q10)), (11, .int (nI (sd))), (12, .int (nI (fb_sm (fun i => B 5 i 1) k))), (13, .int (nI (fb_sm (fun i => B 5 i 2) k))), (14, .int (nI (k)))] → W p l e R s m args below meth c H locs cells slots Q (F0 m 363 ls []) := by
      intro H locs ls hW hS hl
      refine lv_iload hx hb dL_law_363 (lv_at hl 13 rfl) ?_
      refine lv_aload hx hb dL_law_365 (lv_at hl 9 rfl) ?_
      refine lv_iload hx hb dL_law_367 (lv_at hl 15 rfl) ?_
      refine xil C0 hK hW (xU_self _ _ _) (nI_in (by omega) (by omega)) dL_law_369 ?_
      rw [nI_clamp (by omega), f2k]
      refine lv_iadd hx hb dL_law_370 ?_
      rw [nI_add]
      refine lv_istore (lv' := [(12, .int (nI ((fb_sm (fun i => B 5 i 1) k) + (B 5 k 1)))), (15, .int (nI (B 5 k 3))), (0, .ref (b)), (1, .ref (h.2.2 0 0)), (2, .ref (sim)), (3, .int (nI (h.1))), (4, .int (nI (h.2.1))), (5, .int (nI (w))), (6, .int (nI (N))), (7, .int (nI (t))), (8, .ref (q8)), (9, .ref (q9)), (10, .ref (q10)), (11, .int (nI (sd))), (13, .int (nI (fb_sm (fun i => B 5 i 2) k))), (14, .int (nI (k)))]) hx hb dL_law_371 hl (by decide) rfl (fun ls hl => ?_)
      refine lv_iload hx hb dL_law_373 (lv_at hl 14 rfl) ?_
      refine lv_aload_n hx hb dL_law_375 rfl (lv_at hl 3 rfl) ?_
      refine lv_iload hx hb dL_law_376 (lv_at hl 15 rfl) ?_
      refine lv_iconst (v := nI 2) hx hb dL_law_378 (by decide) ?_
      refine cSpring C0 hlo hK hW hS hC hF (a := B 5 k 2) hkn (by decide) rfl hRf hRl hc hZ hl.1 (Nat.le_of_ble_eq_true rfl) dL_law_379 (fun H locs hW hS => ?_)
      refine lv_iadd hx hb dL_law_382 ?_
      rw [nI_add]
      refine lv_istore (lv' := [(13, .int (nI ((fb_sm (fun i => B 5 i 2) k) + (B 5 k 2)))), (12, .int (nI ((fb_sm (fun i => B 5 i 1) k) + (B 5 k 1)))), (15, .int (nI (B 5 k 3))), (0, .ref (b)), (1, .ref (h.2.2 0 0)), (2, .ref (sim)), (3, .int (nI (h.1))), (4, .int (nI (h.2.1))), (5, .int (nI (w))), (6, .int (nI (N))), (7, .int (nI (t))), (8, .ref (q8)), (9, .ref (q9)), (10, .ref (q10)), (11, .int (nI (sd))), (14, .int (nI (k)))]) hx hb dL_law_383 hl (by decide) rfl (fun ls hl => ?_)
      refine lv_iinc (v := nI (k + 1)) (lv' := [(14, .int (nI (k + 1))), (13, .int (nI ((fb_sm (fun i => B 5 i 2) k) + (B 5 k 2)))), (12, .int (nI ((fb_sm (fun i => B 5 i 1) k) + (B 5 k 1)))), (15, .int (nI (B 5 k 3))), (0, .ref (b)), (1, .ref (h.2.2 0 0)), (2, .ref (sim)), (3, .int (nI (h.1))), (4, .int (nI (h.2.1))), (5, .int (nI (w))), (6, .int (nI (N))), (7, .int (nI (t))), (8, .ref (q8)), (9, .ref (q9)), (10, .ref (q10)), (11, .int (nI (sd)))]) hx hb dL_law_385 hl (k := 15) rfl (nI_1 _) (by decide) rfl (fun ls hl => ?_)
      refine lv_goto (tgt := 259) hx hb dL_law_388 (by decide) ?_
      exact ih (k + 1) F2 H locs ls (by omega) hW hS (lv_sub hl [4, 5, 6, 7, 8, 9, 10, 11, 12, 13, 14, 15, 2, 1, 0] rfl) kk
    refine lv_if_ne (tgt := 363) hx hb dL_law_350 (by decide) (fun _ => key H locs ls hW hS hl) (fun c0 => ?_)
    have z3 : B 5 k 3 = 0 := (nI_eq (b := 0) (by omega) (by decide)).mp c0
    have z1 := p3 z3
    refine lv_aload hx hb dL_law_353 (lv_at hl 9 rfl) ?_
    refine lv_iload hx hb dL_law_355 (lv_at hl 15 rfl) ?_
    refine xil C0 hK hW (xU_self _ _ _) (nI_in (by omega) (by omega)) dL_law_357 ?_
    rw [nI_clamp (by omega), f2k]
    refine lv_if_le (tgt := 363) hx hb dL_law_358 (by decide) (fun _ => ?_) (fun c9 => absurd (by rw [z1]; decide) c9)
    exact key H locs ls hW hS hl
theorem lp598 (C0 : CallFix p m c cL_law 26 s args wB RL) (hlo : lo ≤ s.heap.size) (hK : KW g s) (hRf : 8 ≤ R.frames) (hRl : 250 ≤ R.locals) (hc : cells ≤ R.cells) (hZ : slots ≤ R.slots) (hC : Cm B h.1 h.2.1 σ) (hF : Wf B h.1 h.2.1 1) {w N t q8 q9 q10 sd own k u : Nat} (hk : k < h.2.1) (hu : u < 3) : ∀ (k9 x least most : Nat) (H : Heap) (locs : List Loc) (ls : Array Slot), x + k9 = B 6 k 2 → FW (gX g X) h (Ax lo) σ H → va_S (Ax lo) s.heap H locs → (least ≤ 100 ∧ most ≤ 100 ∧ ∀ y, y < x → least ≤ lfN B k u y ∧ lfN B k u y ≤ most) → lv_has ls 26 [(0, .ref (b)), (1, .ref (h.2.2 0 0)), (2, .ref (sim)), (3, .int (nI (h.1))), (4, .int (nI (h.2.1))), (5, .int (nI (w))), (6, .int (nI (N))), (7, .int (nI (t))), (8, .ref (q8)), (9, .ref (q9)), (10, .ref (q10)), (11, .int (nI (sd))), (12, .int (nI (hs B h.1))), (13, .int (nI (ss B h.1))), (14, .int (nI (own))), (15, .int (nI (k))), (16, .int (nI (B 6 k 0))), (17, .long (lN (B 6 k 11))), (19, .int (nI (u))), (20, .int (nI (least))), (21, .int (nI (most))), (22, .int (nI (x)))] →
    (∀ (least most : Nat) (H : Heap) (locs : List Loc) (ls : Array Slot), FW (gX g X) h (Ax lo) σ H → va_S (Ax lo) s.heap H locs → (least ≤ 100 ∧ most ≤ 100 ∧ ∀ y, y < B 6 k 2 → least ≤ lfN B k u y ∧ lfN B k u y ≤ most) → lv_has ls 26 [(0, .ref (b)), (1, .ref (h.2.2 0 0)), (2, .ref (sim)), (3, .int (nI (h.1))), (4, .int (nI (h.2.1))), (5, .int (nI (w))), (6, .int (nI (N))), (7, .int (nI (t))), (8, .ref (q8)), (9, .ref (q9)), (10, .ref (q10)), (11, .int (nI (sd))), (12, .int (nI (hs B h.1))), (13, .int (nI (ss B h.1))), (14, .int (nI (own))), (15, .int (nI (k))), (16, .int (nI (B 6 k 0))), (17, .long (lN (B 6 k 11))), (19, .int (nI (u))), (20, .int (nI (least))), (21, .int (nI (most)))] → W p l e R s m args below meth c H locs cells slots Q (F0 m 650 ls [])) → W p l e R s m args below meth c H locs cells slots Q (F0 m 598 ls []) := by
  have hx := C0.1
  have hb := C0.2.1
  obtain ⟨w0, w1, w2, w3, -⟩ := hF.2.2.2.2.1 k hk
  intro k9
  induction k9 with
  | zero =>
    intro x least most H locs ls hx9 hW hS hv hl kk
    have hxe : x = B 6 k 2 := by omega
    subst hxe
    refine lv_iload hx hb dL_law_598 (lv_at hl 21 rfl) ?_
    refine lv_aload_n hx hb dL_law_600 rfl (lv_at hl 1 rfl) ?_
    refine lv_iload hx hb dL_law_601 (lv_at hl 15 rfl) ?_
    refine lv_iconst (v := nI 2) hx hb dL_law_603 (by decide) ?_
    refine cBird C0 hlo hK hW hS hC hF (a := B 6 k 2) hk (by decide) rfl hRf hRl hc hZ hl.1 (Nat.le_of_ble_eq_true rfl) dL_law_604 (fun H locs hW hS => ?_)
    refine lv_icmp_ge (tgt := 650) hx hb dL_law_607 (by decide) (fun _ => ?_) (fun c9 => absurd (nI_le (by omega) (by omega)) c9)
    exact kk least most H locs ls hW hS hv (lv_sub hl [0, 1, 2, 3, 4, 5, 6, 7, 8, 9, 10, 11, 12, 13, 14, 15, 16, 17, 18, 19, 20] rfl)
  | succ k9 ih =>
    intro x least most H locs ls hx9 hW hS hv hl kk
    have hxn : x < B 6 k 2 := by omega
    obtain ⟨-, l100⟩ := lfN_c hC hF hk hu hxn
    refine lv_iload hx hb dL_law_598 (lv_at hl 21 rfl) ?_
    refine lv_aload_n hx hb dL_law_600 rfl (lv_at hl 1 rfl) ?_
    refine lv_iload hx hb dL_law_601 (lv_at hl 15 rfl) ?_
    refine lv_iconst (v := nI 2) hx hb dL_law_603 (by decide) ?_
    refine cBird C0 hlo hK hW hS hC hF (a := B 6 k 2) hk (by decide) rfl hRf hRl hc hZ hl.1 (Nat.le_of_ble_eq_true rfl) dL_law_604 (fun H locs hW hS => ?_)
    refine lv_icmp_ge (tgt := 650) hx hb dL_law_607 (by decide) (fun c9 => absurd c9 (nI_ge (by omega) (by omega))) (fun _ => ?_)
    refine lv_iload hx hb dL_law_610 (lv_at hl 19 rfl) ?_
    refine lv_aload_n hx hb dL_law_612 rfl (lv_at hl 1 rfl) ?_
    refine lv_iload hx hb dL_law_613 (lv_at hl 15 rfl) ?_
    refine lv_iload hx hb dL_law_615 (lv_at hl 18 rfl) ?_
    refine lv_iload hx hb dL_law_617 (lv_at hl 21 rfl) ?_
    refine cLiftX C0 hlo hK hW hS hC hF hk hu hxn hRf hRl hc hZ hl.1 (Nat.le_of_ble_eq_true rfl) dL_law_619 (fun H locs hW hS => ?_)
    refine r_min C0 hl.1 wML_L_110 (Nat.le_trans (Nat.le_of_ble_eq_true rfl) hRf) (Nat.le_trans (Nat.le_of_ble_eq_true rfl) hRl) hc hZ dL_law_622 ?_
    rw [mn_nI (by omega) (by omega)]
    refine lv_istore (lv' := [(20, .int (nI (min least (lfN B k u x)))), (0, .ref (b)), (1, .ref (h.2.2 0 0)), (2, .ref (sim)), (3, .int (nI (h.1))), (4, .int (nI (h.2.1))), (5, .int (nI (w))), (6, .int (nI (N))), (7, .int (nI (t))), (8, .ref (q8)), (9, .ref (q9)), (10, .ref (q10)), (11, .int (nI (sd))), (12, .int (nI (hs B h.1))), (13, .int (nI (ss B h.1))), (14, .int (nI (own))), (15, .int (nI (k))), (16, .int (nI (B 6 k 0))), (17, .long (lN (B 6 k 11))), (19, .int (nI (u))), (21, .int (nI (most))), (22, .int (nI (x)))]) hx hb dL_law_625 hl (by decide) rfl (fun ls hl => ?_)
    refine lv_iload hx hb dL_law_627 (lv_at hl 20 rfl) ?_
    refine lv_aload_n hx hb dL_law_629 rfl (lv_at hl 2 rfl) ?_
    refine lv_iload hx hb dL_law_630 (lv_at hl 16 rfl) ?_
    refine lv_iload hx hb dL_law_632 (lv_at hl 19 rfl) ?_
    refine lv_iload hx hb dL_law_634 (lv_at hl 21 rfl) ?_
    refine cLiftX C0 hlo hK hW hS hC hF hk hu hxn hRf hRl hc hZ hl.1 (Nat.le_of_ble_eq_true rfl) dL_law_636 (fun H locs hW hS => ?_)
    refine r_max C0 hl.1 wML_L_123 (Nat.le_trans (Nat.le_of_ble_eq_true rfl) hRf) (Nat.le_trans (Nat.le_of_ble_eq_true rfl) hRl) hc hZ dL_law_639 ?_
    rw [mx_nI (by omega) (by omega)]
    refine lv_istore (lv' := [(21, .int (nI (max most (lfN B k u x)))), (20, .int (nI (min least (lfN B k u x)))), (0, .ref (b)), (1, .ref (h.2.2 0 0)), (2, .ref (sim)), (3, .int (nI (h.1))), (4, .int (nI (h.2.1))), (5, .int (nI (w))), (6, .int (nI (N))), (7, .int (nI (t))), (8, .ref (q8)), (9, .ref (q9)), (10, .ref (q10)), (11, .int (nI (sd))), (12, .int (nI (hs B h.1))), (13, .int (nI (ss B h.1))), (14, .int (nI (own))), (15, .int (nI (k))), (16, .int (nI (B 6 k 0))), (17, .long (lN (B 6 k 11))), (19, .int (nI (u))), (22, .int (nI (x)))]) hx hb dL_law_642 hl (by decide) rfl (fun ls hl => ?_)
    refine lv_iinc (v := nI (x + 1)) (lv' := [(22, .int (nI (x + 1))), (21, .int (nI (max most (lfN B k u x)))), (20, .int (nI (min least (lfN B k u x)))), (0, .ref (b)), (1, .ref (h.2.2 0 0)), (2, .ref (sim)), (3, .int (nI (h.1))), (4, .int (nI (h.2.1))), (5, .int (nI (w))), (6, .int (nI (N))), (7, .int (nI (t))), (8, .ref (q8)), (9, .ref (q9)), (10, .ref (q10)), (11, .int (nI (sd))), (12, .int (nI (hs B h.1))), (13, .int (nI (ss B h.1))), (14, .int (nI (own))), (15, .int (nI (k))), (16, .int (nI (B 6 k 0))), (17, .long (lN (B 6 k 11))), (19, .int (nI (u)))]) hx hb dL_law_644 hl (k := 21) rfl (nI_1 _) (by decide) rfl (fun ls hl => ?_)
    refine lv_goto (tgt := 598) hx hb dL_law_647 (by decide) ?_
    refine ih (x + 1) (min least (lfN B k u x)) (max most (lfN B k u x)) H locs ls (by omega) hW hS ⟨by omega, by omega, fun y hy => ?_⟩ (lv_sub hl [3, 4, 5, 6, 7, 8, 9, 10, 11, 12, 13, 14, 15, 16, 17, 18, 19, 20, 21, 2, 1, 0] rfl) kk
    by_cases hyx : y = x
    · rw [hyx]; omega
    · have := hv.2.2 y (by omega)
      omega
theorem lp703 (C0 : CallFix p m c cL_law 26 s args wB RL) (hlo : lo ≤ s.heap.size) (hK : KW g s) (hRf : 8 ≤ R.frames) (hRl : 250 ≤ R.locals) (hc : cells ≤ R.cells) (hZ : slots ≤ R.slots) {w N t q8 q9 q10 sd own k u least most ar mm : Nat} {f : Nat → Option Nat} (har : X ar = some (Er f mm (g.2.2.2.1 0))) (hmm : mm ≤ 3) (hpt : ∀ i, i < mm → ∃ (a v : Nat) (F : Nat → Int32), f i = some a ∧ X a = some (Ei F 2 g.2.1.1) ∧ F 1 = nI v ∧ v ≤ 100 ∧ least ≤ v ∧ v ≤ most) (hm1 : most ≤ 100) (hW : FW (gX g X) h (Ax lo) σ H) (hS : va_S (Ax lo) s.heap H locs) : ∀ (k9 i : Nat) (ls : Array Slot), i + k9 = mm → lv_has ls 26 [(0, .ref (b)), (1, .ref (h.2.2 0 0)), (2, .ref (sim)), (3, .int (nI (h.1))), (4, .int (nI (h.2.1))), (5, .int (nI (w))), (6, .int (nI (N))), (7, .int (nI (t))), (8, .ref (q8)), (9, .ref (q9)), (10, .ref (q10)), (11, .int (nI (sd))), (12, .int (nI (hs B h.1))), (13, .int (nI (ss B h.1))), (14, .int (nI (own))), (15, .int (nI (k))), (16, .int (nI (B 6 k 0))), (17, .long (lN (B 6 k 11))), (19, .int (nI (u))), (20, .int (nI (least))), (21, .int (nI (most))), (22, .ref (ar)), (23, .int (nI (mm))), (24, .int (nI (i)))] →
    (∀ (ls : Array Slot), lv_has ls 26 [(0, .ref (b)), (1, .ref (h.2.2 0 0)), (2, .ref (sim)), (3, .int (nI (h.1))), (4, .int (nI (h.2.1))), (5, .int (nI (w))), (6, .int (nI (N))), (7, .int (nI (t))), (8, .ref (q8)), (9, .ref (q9)), (10, .ref (q10)), (11, .int (nI (sd))), (12, .int (nI (hs B h.1))), (13, .int (nI (ss B h.1))), (14, .int (nI (own))), (15, .int (nI (k))), (16, .int (nI (B 6 k 0))), (17, .long (lN (B 6 k 11))), (19, .int (nI (u)))] → W p l e R s m args below meth c H locs cells slots Q (F0 m 743 ls [])) → W p l e R s m args below meth c H locs cells slots Q (F0 m 703 ls []) := by
  have hx := C0.1
  have hb := C0.2.1
  intro k9
  induction k9 with
  | zero =>
    intro i ls hi hl kk
    refine lv_iload hx hb dL_law_703 (lv_at hl 23 rfl) ?_
    refine lv_iload hx hb dL_law_705 (lv_at hl 22 rfl) ?_
    refine lv_icmp_ge (tgt := 743) hx hb dL_law_707 (by decide) (fun _ => ?_) (fun c9 => absurd (nI_le (by omega) (by omega)) c9)
    exact kk ls (lv_sub hl [0, 1, 2, 3, 4, 5, 6, 7, 8, 9, 10, 11, 12, 13, 14, 15, 16, 17, 18] rfl)
  | succ k9 ih =>
    intro i ls hi hl kk
    obtain ⟨a, v, F, f1, f2, f3, f4, f5, f6⟩ := hpt i (by omega)
    refine lv_iload hx hb dL_law_703 (lv_at hl 23 rfl) ?_
    refine lv_iload hx hb dL_law_705 (lv_at hl 22 rfl) ?_
    refine lv_icmp_ge (tgt := 743) hx hb dL_law_707 (by decide) (fun c9 => absurd c9 (nI_ge (by omega) (by omega))) (fun _ => ?_)
    refine lv_aload hx hb dL_law_710 (lv_at hl 21 rfl) ?_
    refine lv_iload hx hb dL_law_712 (lv_at hl 23 rfl) ?_
    refine xrl C0 hK hW 6 har rfl rfl (nI_in (by omega) (by omega)) dL_law_714 ?_
    rw [nI_clamp (by omega), f1]
    refine lv_astore (lv' := [(25, .ref (a)), (0, .ref (b)), (1, .ref (h.2.2 0 0)), (2, .ref (sim)), (3, .int (nI (h.1))), (4, .int (nI (h.2.1))), (5, .int (nI (w))), (6, .int (nI (N))), (7, .int (nI (t))), (8, .ref (q8)), (9, .ref (q9)), (10, .ref (q10)), (11, .int (nI (sd))), (12, .int (nI (hs B h.1))), (13, .int (nI (ss B h.1))), (14, .int (nI (own))), (15, .int (nI (k))), (16, .int (nI (B 6 k 0))), (17, .long (lN (B 6 k 11))), (19, .int (nI (u))), (20, .int (nI (least))), (21, .int (nI (most))), (22, .ref (ar)), (23, .int (nI (mm))), (24, .int (nI (i)))]) hx hb dL_law_715 hl (by decide) rfl (fun ls hl => ?_)
    refine lv_aload hx hb dL_law_717 (lv_at hl 0 rfl) ?_
    refine lv_iconst (v := nI 1) hx hb dL_law_719 (by decide) ?_
    refine xil C0 hK hW f2 (nI_in (by decide) (by decide)) dL_law_720 ?_
    rw [nI_clamp (by decide), f3]
    refine lv_iload hx hb dL_law_721 (lv_at hl 20 rfl) ?_
    refine lv_icmp_lt (tgt := 735) hx hb dL_law_723 (by decide) (fun c9 => absurd c9 (nI_nlt (by omega) (by omega))) (fun _ => ?_)
    refine lv_aload hx hb dL_law_726 (lv_at hl 0 rfl) ?_
    refine lv_iconst (v := nI 1) hx hb dL_law_728 (by decide) ?_
    refine xil C0 hK hW f2 (nI_in (by decide) (by decide)) dL_law_729 ?_
    rw [nI_clamp (by decide), f3]
    refine lv_iload hx hb dL_law_730 (lv_at hl 21 rfl) ?_
    refine lv_icmp_le (tgt := 737) hx hb dL_law_732 (by decide) (fun _ => ?_) (fun c9 => absurd (nI_le (by omega) (by omega)) c9)
    refine lv_iinc (v := nI (i + 1)) (lv' := [(24, .int (nI (i + 1))), (25, .ref (a)), (0, .ref (b)), (1, .ref (h.2.2 0 0)), (2, .ref (sim)), (3, .int (nI (h.1))), (4, .int (nI (h.2.1))), (5, .int (nI (w))), (6, .int (nI (N))), (7, .int (nI (t))), (8, .ref (q8)), (9, .ref (q9)), (10, .ref (q10)), (11, .int (nI (sd))), (12, .int (nI (hs B h.1))), (13, .int (nI (ss B h.1))), (14, .int (nI (own))), (15, .int (nI (k))), (16, .int (nI (B 6 k 0))), (17, .long (lN (B 6 k 11))), (19, .int (nI (u))), (20, .int (nI (least))), (21, .int (nI (most))), (22, .ref (ar)), (23, .int (nI (mm)))]) hx hb dL_law_737 hl (k := 24) rfl (nI_1 _) (by decide) rfl (fun ls hl => ?_)
    refine lv_goto (tgt := 703) hx hb dL_law_740 (by decide) ?_
    exact ih (i + 1) ls (by omega) (lv_sub hl [2, 3, 4, 5, 6, 7, 8, 9, 10, 11, 12, 13, 14, 15, 16, 17, 18, 19, 20, 21, 22, 23, 24, 0] rfl) kk
theorem lp582 (C0 : CallFix p m c cL_law 26 s args wB RL) (hlo : lo ≤ s.heap.size) (hK : KW g s) (hRf : 8 ≤ R.frames) (hRl : 250 ≤ R.locals) (hc : cells ≤ R.cells) (hZ : slots ≤ R.slots) (hC : Cm B h.1 h.2.1 σ) (hF : Wf B h.1 h.2.1 1) (hM : SM g X h.1 h.2.1 sim B) {w N t q8 q9 q10 sd own k : Nat} (hk : k < h.2.1) : ∀ (k9 u : Nat) (H : Heap) (locs : List Loc) (ls : Array Slot), u + k9 = 3 → FW (gX g X) h (Ax lo) σ H → va_S (Ax lo) s.heap H locs → lv_has ls 26 [(0, .ref (b)), (1, .ref (h.2.2 0 0)), (2, .ref (sim)), (3, .int (nI (h.1))), (4, .int (nI (h.2.1))), (5, .int (nI (w))), (6, .int (nI (N))), (7, .int (nI (t))), (8, .ref (q8)), (9, .ref (q9)), (10, .ref (q10)), (11, .int (nI (sd))), (12, .int (nI (hs B h.1))), (13, .int (nI (ss B h.1))), (14, .int (nI (own))), (15, .int (nI (k))), (16, .int (nI (B 6 k 0))), (17, .long (lN (B 6 k 11))), (19, .int (nI (u)))] →
    (∀ (H : Heap) (locs : List Loc) (ls : Array Slot), FW (gX g X) h (Ax lo) σ H → va_S (Ax lo) s.heap H locs → lv_has ls 26 [(0, .ref (b)), (1, .ref (h.2.2 0 0)), (2, .ref (sim)), (3, .int (nI (h.1))), (4, .int (nI (h.2.1))), (5, .int (nI (w))), (6, .int (nI (N))), (7, .int (nI (t))), (8, .ref (q8)), (9, .ref (q9)), (10, .ref (q10)), (11, .int (nI (sd))), (12, .int (nI (hs B h.1))), (13, .int (nI (ss B h.1))), (14, .int (nI (own))), (15, .int (nI (k)))] → W p l e R s m args below meth c H locs cells slots Q (F0 m 749 ls [])) → W p l e R s m args below meth c H locs cells slots Q (F0 m 582 ls []) := by
  have hx := C0.1
  have hb := C0.2.1
  intro k9
  induction k9 with
  | zero =>
    intro u H locs ls hu hW hS hl kk
    refine lv_iload hx hb dL_law_582 (lv_at hl 18 rfl) ?_
    refine lv_iconst (v := nI 3) hx hb dL_law_584 (by decide) ?_
    refine lv_icmp_ge (tgt := 749) hx hb dL_law_585 (by decide) (fun _ => ?_) (fun c9 => absurd (nI_le (by omega) (by omega)) c9)
    exact kk H locs ls hW hS (lv_sub hl [0, 1, 2, 3, 4, 5, 6, 7, 8, 9, 10, 11, 12, 13, 14, 15] rfl)
  | succ k9 ih =>
    intro u H locs ls hu9 hW hS hl kk
    have hu : u < 3 := by omega
    have h8 := hF.2.1
    obtain ⟨w0, w1, w2, w3, -⟩ := hF.2.2.2.2.1 k hk
    have hpl : plA B k < B 6 k 2 := plA_lt hF hk
    refine lv_iload hx hb dL_law_582 (lv_at hl 18 rfl) ?_
    refine lv_iconst (v := nI 3) hx hb dL_law_584 (by decide) ?_
    refine lv_icmp_ge (tgt := 749) hx hb dL_law_585 (by decide) (fun c9 => absurd c9 (nI_ge (by omega) (by omega))) (fun _ => ?_)
    refine lv_bipush (v := nI 100) hx hb dL_law_588 (by decide) ?_
    refine lv_istore (lv' := [(20, .int (nI (100))), (0, .ref (b)), (1, .ref (h.2.2 0 0)), (2, .ref (sim)), (3, .int (nI (h.1))), (4, .int (nI (h.2.1))), (5, .int (nI (w))), (6, .int (nI (N))), (7, .int (nI (t))), (8, .ref (q8)), (9, .ref (q9)), (10, .ref (q10)), (11, .int (nI (sd))), (12, .int (nI (hs B h.1))), (13, .int (nI (ss B h.1))), (14, .int (nI (own))), (15, .int (nI (k))), (16, .int (nI (B 6 k 0))), (17, .long (lN (B 6 k 11))), (19, .int (nI (u)))]) hx hb dL_law_590 hl (by decide) rfl (fun ls hl => ?_)
    refine lv_iconst (v := nI 0) hx hb dL_law_592 (by decide) ?_
    refine lv_istore (lv' := [(21, .int (nI (0))), (20, .int (nI (100))), (0, .ref (b)), (1, .ref (h.2.2 0 0)), (2, .ref (sim)), (3, .int (nI (h.1))), (4, .int (nI (h.2.1))), (5, .int (nI (w))), (6, .int (nI (N))), (7, .int (nI (t))), (8, .ref (q8)), (9, .ref (q9)), (10, .ref (q10)), (11, .int (nI (sd))), (12, .int (nI (hs B h.1))), (13, .int (nI (ss B h.1))), (14, .int (nI (own))), (15, .int (nI (k))), (16, .int (nI (B 6 k 0))), (17, .long (lN (B 6 k 11))), (19, .int (nI (u)))]) hx hb dL_law_593 hl (by decide) rfl (fun ls hl => ?_)
    refine lv_iconst (v := nI 0) hx hb dL_law_595 (by decide) ?_
    refine lv_istore (lv' := [(22, .int (nI (0))), (21, .int (nI (0))), (20, .int (nI (100))), (0, .ref (b)), (1, .ref (h.2.2 0 0)), (2, .ref (sim)), (3, .int (nI (h.1))), (4, .int (nI (h.2.1))), (5, .int (nI (w))), (6, .int (nI (N))), (7, .int (nI (t))), (8, .ref (q8)), (9, .ref (q9)), (10, .ref (q10)), (11, .int (nI (sd))), (12, .int (nI (hs B h.1))), (13, .int (nI (ss B h.1))), (14, .int (nI (own))), (15, .int (nI (k))), (16, .int (nI (B 6 k 0))), (17, .long (lN (B 6 k 11))), (19, .int (nI (u)))]) hx hb dL_law_596 hl (by decide) rfl (fun ls hl => ?_)
    refine lp598 C0 hlo hK hRf hRl hc hZ hC hF hk hu (B 6 k 2) 0 100 0 H locs ls (by omega) hW hS ⟨by decide, by decide, fun y hy => absurd hy (Nat.not_lt_zero y)⟩ (lv_sub hl [3, 4, 5, 6, 7, 8, 9, 10, 11, 12, 13, 14, 15, 16, 17, 18, 19, 20, 21, 2, 1, 0] rfl) (fun least most H locs ls hW hS hv hl => ?_)
    obtain ⟨v1, v2, v3⟩ := hv
    have hpv := v3 _ hpl
    have l100 := (lfN_c hC hF hk hu hpl).2
    refine lv_aload_n hx hb dL_law_650 rfl (lv_at hl 1 rfl) ?_
    refine lv_iload hx hb dL_law_651 (lv_at hl 15 rfl) ?_
    refine lv_iload hx hb dL_law_653 (lv_at hl 18 rfl) ?_
    refine lv_iconst (v := -1) hx hb dL_law_655 (by decide) ?_
    refine cLift C0 hlo hK hW hS hC hF hk hu hRf hRl hc hZ hl.1 (Nat.le_of_ble_eq_true rfl) dL_law_656 (fun H locs hW hS => ?_)
    refine lv_iload hx hb dL_law_659 (lv_at hl 19 rfl) ?_
    refine lv_icmp_lt (tgt := 678) hx hb dL_law_661 (by decide) (fun c9 => absurd c9 (nI_nlt (by omega) (by omega))) (fun _ => ?_)
    refine lv_aload_n hx hb dL_law_664 rfl (lv_at hl 1 rfl) ?_
    refine lv_iload hx hb dL_law_665 (lv_at hl 15 rfl) ?_
    refine lv_iload hx hb dL_law_667 (lv_at hl 18 rfl) ?_
    refine lv_iconst (v := -1) hx hb dL_law_669 (by decide) ?_
    refine cLift C0 hlo hK hW hS hC hF hk hu hRf hRl hc hZ hl.1 (Nat.le_of_ble_eq_true rfl) dL_law_670 (fun H locs hW hS => ?_)
    refine lv_iload hx hb dL_law_673 (lv_at hl 20 rfl) ?_
    refine lv_icmp_le (tgt := 680) hx hb dL_law_675 (by decide) (fun _ => ?_) (fun c9 => absurd (nI_le (by omega) (by omega)) c9)
    obtain ⟨aS, aC, aB, aO, FS, FB, m1, m2, m3, m4⟩ := id hM
    obtain ⟨qb, qb1, s9, w9, n9, p9, q9_, a1, a2, a3, fC, e1, e2, e3⟩ := m4 k hk
    obtain ⟨ar, mm, f, f1, f2, f3, f4⟩ := e3 u hu
    refine lv_aload_n hx hb dL_law_680 rfl (lv_at hl 2 rfl) ?_
    refine xgf (ci := 6) (C := RX6) (T := TX6) (N := 6) C0 hK hW m1 rfl inX6_B 3 (by decide) wFL_L_92 rfl rfl dL_law_681 ?_
    refine lv_iload hx hb dL_law_684 (lv_at hl 15 rfl) ?_
    refine xrl C0 hK hW 9 m3 rfl rfl (nI_in hk (by omega)) dL_law_686 ?_
    rw [nI_clamp (by omega), qb1]
    refine xgf (ci := 5) (C := RX5) (T := TX5) (N := 12) C0 hK hW e1 rfl inX5_B 10 (by decide) wFL_L_77 rfl rfl dL_law_687 ?_
    refine lv_iload hx hb dL_law_690 (lv_at hl 18 rfl) ?_
    refine xrl C0 hK hW 7 e2 rfl rfl (nI_in hu (by decide)) dL_law_692 ?_
    rw [nI_clamp (by omega), f1]
    refine lv_astore (lv' := [(22, .ref (ar)), (0, .ref (b)), (1, .ref (h.2.2 0 0)), (2, .ref (sim)), (3, .int (nI (h.1))), (4, .int (nI (h.2.1))), (5, .int (nI (w))), (6, .int (nI (N))), (7, .int (nI (t))), (8, .ref (q8)), (9, .ref (q9)), (10, .ref (q10)), (11, .int (nI (sd))), (12, .int (nI (hs B h.1))), (13, .int (nI (ss B h.1))), (14, .int (nI (own))), (15, .int (nI (k))), (16, .int (nI (B 6 k 0))), (17, .long (lN (B 6 k 11))), (19, .int (nI (u))), (20, .int (nI (least))), (21, .int (nI (most)))]) hx hb dL_law_693 hl (by decide) rfl (fun ls hl => ?_)
    refine lv_aload hx hb dL_law_695 (lv_at hl 0 rfl) ?_
    refine xln (v := nI mm) C0 hK hW 6 f2 rfl rfl dL_law_697 ?_
    refine lv_istore (lv' := [(23, .int (nI (mm))), (22, .ref (ar)), (0, .ref (b)), (1, .ref (h.2.2 0 0)), (2, .ref (sim)), (3, .int (nI (h.1))), (4, .int (nI (h.2.1))), (5, .int (nI (w))), (6, .int (nI (N))), (7, .int (nI (t))), (8, .ref (q8)), (9, .ref (q9)), (10, .ref (q10)), (11, .int (nI (sd))), (12, .int (nI (hs B h.1))), (13, .int (nI (ss B h.1))), (14, .int (nI (own))), (15, .int (nI (k))), (16, .int (nI (B 6 k 0))), (17, .long (lN (B 6 k 11))), (19, .int (nI (u))), (20, .int (nI (least))), (21, .int (nI (most)))]) hx hb dL_law_698 hl (by decide) rfl (fun ls hl => ?_)
    refine lv_iconst (v := nI 0) hx hb dL_law_700 (by decide) ?_
    refine lv_istore (lv' := [(24, .int (nI (0))), (23, .int (nI (mm))), (22, .ref (ar)), (0, .ref (b)), (1, .ref (h.2.2 0 0)), (2, .ref (sim)), (3, .int (nI (h.1))), (4, .int (nI (h.2.1))), (5, .int (nI (w))), (6, .int (nI (N))), (7, .int (nI (t))), (8, .ref (q8)), (9, .ref (q9)), (10, .ref (q10)), (11, .int (nI (sd))), (12, .int (nI (hs B h.1))), (13, .int (nI (ss B h.1))), (14, .int (nI (own))), (15, .int (nI (k))), (16, .int (nI (B 6 k 0))), (17, .long (lN (B 6 k 11))), (19, .int (nI (u))), (20, .int (nI (least))), (21, .int (nI (most)))]) hx hb dL_law_701 hl (by decide) rfl (fun ls hl => ?_)
    refine lp703 C0 hlo hK hRf hRl hc hZ f2 f3 (fun i hi => ?_) v2 hW hS mm 0 ls (by omega) (lv_sub hl [3, 4, 5, 6, 7, 8, 9, 10, 11, 12, 13, 14, 15, 16, 17, 18, 19, 20, 21, 22, 23, 2, 1, 0] rfl) (fun ls hl => ?_)
    · obtain ⟨a, x, v, F, g1, g2, g3, g4, g5, g6⟩ := f4 i hi
      have hlx : lfN B k u x = v := by
        unfold lfN
        rw [lf_pt g3 (by omega), g5]
        omega
      have := v3 x g3
      exact ⟨a, v, F, g1, g2, g6, g4, by omega, by omega⟩
    refine lv_iinc (v := nI (u + 1)) (lv' := [(19, .int (nI (u + 1))), (0, .ref (b)), (1, .ref (h.2.2 0 0)), (2, .ref (sim)), (3, .int (nI (h.1))), (4, .int (nI (h.2.1))), (5, .int (nI (w))), (6, .int (nI (N))), (7, .int (nI (t))), (8, .ref (q8)), (9, .ref (q9)), (10, .ref (q10)), (11, .int (nI (sd))), (12, .int (nI (hs B h.1))), (13, .int (nI (ss B h.1))), (14, .int (nI (own))), (15, .int (nI (k))), (16, .int (nI (B 6 k 0))), (17, .long (lN (B 6 k 11)))]) hx hb dL_law_743 hl (k := 18) rfl (nI_1 _) (by decide) rfl (fun ls hl => ?_)
    refine lv_goto (tgt := 582) hx hb dL_law_746 (by decide) ?_
    exact ih (u + 1) H locs ls (by omega) hW hS (lv_sub hl [1, 2, 3, 4, 5, 6, 7, 8, 9, 10, 11, 12, 13, 14, 15, 16, 17, 18, 0] rfl) kk
theorem lp458 (C0 : CallFix p m c cL_law 26 s args wB RL) (hlo : lo ≤ s.heap.size) (hK : KW g s) (hRf : 8 ≤ R.frames) (hRl : 250 ≤ R.locals) (hc : cells ≤ R.cells) (hZ : slots ≤ R.slots) (hC : Cm B h.1 h.2.1 σ) (hF : Wf B h.1 h.2.1 1) (hM : SM g X h.1 h.2.1 sim B) (h11 : ∀ i, i < h.2.1 → B 6 i 10 = 0 ∧ B 6 i 11 = comeA B i) {w N t q8 q9 q10 sd : Nat} {G : Ab} {F10 : Nat → Int64} (hq10 : X q10 = some (El F10 h.2.1 g.2.1.2.2.1)) (hv10 : ∀ j, j < h.2.1 → F10 j = lN (G 6 j 11)) (hG : ∀ j, j < h.2.1 → G 6 j 11 ≤ B 6 j 11) (hN : os B h.2.1 < 2 ^ 31) : ∀ (k9 k : Nat) (H : Heap) (locs : List Loc) (ls : Array Slot), k + k9 = h.2.1 → FW (gX g X) h (Ax lo) σ H → va_S (Ax lo) s.heap H locs → lv_has ls 26 [(0, .ref (b)), (1, .ref (h.2.2 0 0)), (2, .ref (sim)), (3, .int (nI (h.1))), (4, .int (nI (h.2.1))), (5, .int (nI (w))), (6, .int (nI (N))), (7, .int (nI (t))), (8, .ref (q8)), (9, .ref (q9)), (10, .ref (q10)), (11, .int (nI (sd))), (12, .int (nI (hs B h.1))), (13, .int (nI (ss B h.1))), (14, .int (nI (fb_sm (fun i => B 6 i 12) k))), (15, .int (nI (k)))] →
    (∀ (H : Heap) (locs : List Loc) (ls : Array Slot), FW (gX g X) h (Ax lo) σ H → va_S (Ax lo) s.heap H locs → lv_has ls 26 [(0, .ref (b)), (1, .ref (h.2.2 0 0)), (2, .ref (sim)), (3, .int (nI (h.1))), (4, .int (nI (h.2.1))), (5, .int (nI (w))), (6, .int (nI (N))), (7, .int (nI (t))), (8, .ref (q8)), (9, .ref (q9)), (10, .ref (q10)), (11, .int (nI (sd))), (12, .int (nI (hs B h.1))), (13, .int (nI (ss B h.1))), (14, .int (nI (os B h.2.1)))] → W p l e R s m args below meth c H locs cells slots Q (F0 m 755 ls [])) → W p l e R s m args below meth c H locs cells slots Q (F0 m 458 ls []) := by
  have hx := C0.1
  have hb := C0.2.1
  have h8 := hF.2.1
  intro k9
  induction k9 with
  | zero =>
    intro k H locs ls hk hW hS hl kk
    have hke : k = h.2.1 := by omega
    subst hke
    refine lv_iload hx hb dL_law_458 (lv_at hl 15 rfl) ?_
    refine lv_iload hx hb dL_law_460 (lv_at hl 4 rfl) ?_
    refine lv_icmp_ge (tgt := 755) hx hb dL_law_462 (by decide) (fun _ => ?_) (fun c9 => absurd (nI_le (by omega) (by omega)) c9)
    exact kk H locs ls hW hS (lv_sub hl [0, 1, 2, 3, 4, 5, 6, 7, 8, 9, 10, 11, 12, 13, 14] rfl)
  | succ k9 ih =>
    intro k H locs ls hk9 hW hS hl kk
    have hk : k < h.2.1 := by omega
    obtain ⟨w0, w1, w2, w3, w4, w5, w6, w7, -⟩ := hF.2.2.2.2.1 k hk
    obtain ⟨d1, d2, d3, d4⟩ := come_bd hF (by decide) hk
    obtain ⟨e10, e11⟩ := h11 k hk
    rw [e10, Nat.sub_zero] at d2
    have ecm : B 5 (B 6 k 0) 2 * B 6 k 3 * B 6 k 2 / (1000 * B 6 k 4) = B 6 k 11 := by rw [e11]; unfold comeA; rw [e10, Nat.sub_zero]
    have hb11 : B 6 k 11 < 1000000000 := by rw [e11]; exact d1
    have hpl : plA B k < B 6 k 2 := plA_lt hF hk
    have h4 := hF.1
    refine lv_iload hx hb dL_law_458 (lv_at hl 15 rfl) ?_
    refine lv_iload hx hb dL_law_460 (lv_at hl 4 rfl) ?_
    refine lv_icmp_ge (tgt := 755) hx hb dL_law_462 (by decide) (fun c9 => absurd c9 (nI_ge (by omega) (by omega))) (fun _ => ?_)
    refine lv_aload_n hx hb dL_law_465 rfl (lv_at hl 1 rfl) ?_
    refine lv_iload hx hb dL_law_466 (lv_at hl 15 rfl) ?_
    refine lv_iconst (v := nI 0) hx hb dL_law_468 (by decide) ?_
    refine cBird C0 hlo hK hW hS hC hF (a := B 6 k 0) hk (by decide) rfl hRf hRl hc hZ hl.1 (Nat.le_of_ble_eq_true rfl) dL_law_469 (fun H locs hW hS => ?_)
    refine lv_istore (lv' := [(16, .int (nI (B 6 k 0))), (0, .ref (b)), (1, .ref (h.2.2 0 0)), (2, .ref (sim)), (3, .int (nI (h.1))), (4, .int (nI (h.2.1))), (5, .int (nI (w))), (6, .int (nI (N))), (7, .int (nI (t))), (8, .ref (q8)), (9, .ref (q9)), (10, .ref (q10)), (11, .int (nI (sd))), (12, .int (nI (hs B h.1))), (13, .int (nI (ss B h.1))), (14, .int (nI (fb_sm (fun i => B 6 i 12) k))), (15, .int (nI (k)))]) hx hb dL_law_472 hl (by decide) rfl (fun ls hl => ?_)
    refine lv_aload_n hx hb dL_law_474 rfl (lv_at hl 2 rfl) ?_
    refine lv_iload hx hb dL_law_475 (lv_at hl 0 rfl) ?_
    refine lv_iconst (v := nI 2) hx hb dL_law_477 (by decide) ?_
    refine cSpring C0 hlo hK hW hS hC hF (a := B 5 (B 6 k 0) 2) w0 (by decide) rfl hRf hRl hc hZ hl.1 (Nat.le_of_ble_eq_true rfl) dL_law_478 (fun H locs hW hS => ?_)
    refine lv_i2l (v := lN (B 5 (B 6 k 0) 2)) hx hb dL_law_481 (nI_l (by omega)) ?_
    refine lv_aload_n hx hb dL_law_482 rfl (lv_at hl 2 rfl) ?_
    refine lv_iload hx hb dL_law_483 (lv_at hl 16 rfl) ?_
    refine lv_iconst (v := nI 3) hx hb dL_law_485 (by decide) ?_
    refine cBird C0 hlo hK hW hS hC hF (a := B 6 k 3) hk (by decide) rfl hRf hRl hc hZ hl.1 (Nat.le_of_ble_eq_true rfl) dL_law_486 (fun H locs hW hS => ?_)
    refine lv_i2l (v := lN (B 6 k 3)) hx hb dL_law_489 (nI_l (by omega)) ?_
    refine lv_lmul hx hb dL_law_490 ?_
    rw [lN_mul]
    refine lv_aload_n hx hb dL_law_491 rfl (lv_at hl 2 rfl) ?_
    refine lv_iload hx hb dL_law_492 (lv_at hl 16 rfl) ?_
    refine lv_iconst (v := nI 2) hx hb dL_law_494 (by decide) ?_
    refine cBird C0 hlo hK hW hS hC hF (a := B 6 k 2) hk (by decide) rfl hRf hRl hc hZ hl.1 (Nat.le_of_ble_eq_true rfl) dL_law_495 (fun H locs hW hS => ?_)
    refine lv_i2l (v := lN (B 6 k 2)) hx hb dL_law_498 (nI_l (by omega)) ?_
    refine lv_lmul hx hb dL_law_499 ?_
    rw [lN_mul]
    refine lv_ldc2 (v := lN 1000) hx hb C0.2.2.2.1 (C0.2.2.2.2 _ wconstantLong_L_118) dL_law_500 ?_
    refine lv_aload_n hx hb dL_law_503 rfl (lv_at hl 2 rfl) ?_
    refine lv_iload hx hb dL_law_504 (lv_at hl 16 rfl) ?_
    refine lv_iconst (v := nI 4) hx hb dL_law_506 (by decide) ?_
    refine cBird C0 hlo hK hW hS hC hF (a := B 6 k 4) hk (by decide) rfl hRf hRl hc hZ hl.1 (Nat.le_of_ble_eq_true rfl) dL_law_507 (fun H locs hW hS => ?_)
    refine lv_i2l (v := lN (B 6 k 4)) hx hb dL_law_510 (nI_l (by omega)) ?_
    refine lv_lmul hx hb dL_law_511 ?_
    rw [lN_mul]
    refine lv_ldiv hx hb dL_law_512 (lN_ne0 (by omega) (by omega)) ?_
    rw [pk_lDiv (by omega) (by omega) (by omega), ecm]
    refine lv_lstore (lv' := [(17, .long (lN (B 6 k 11))), (16, .int (nI (B 6 k 0))), (0, .ref (b)), (1, .ref (h.2.2 0 0)), (2, .ref (sim)), (3, .int (nI (h.1))), (4, .int (nI (h.2.1))), (5, .int (nI (w))), (6, .int (nI (N))), (7, .int (nI (t))), (8, .ref (q8)), (9, .ref (q9)), (10, .ref (q10)), (11, .int (nI (sd))), (12, .int (nI (hs B h.1))), (13, .int (nI (ss B h.1))), (14, .int (nI (fb_sm (fun i => B 6 i 12) k))), (15, .int (nI (k)))]) hx hb dL_law_513 hl (by decide) rfl (fun ls hl => ?_)
    refine lv_aload_n hx hb dL_law_515 rfl (lv_at hl 3 rfl) ?_
    refine lv_iload hx hb dL_law_516 (lv_at hl 17 rfl) ?_
    refine lv_bipush (v := nI 8) hx hb dL_law_518 (by decide) ?_
    refine cBird C0 hlo hK hW hS hC hF (a := B 6 k 11) hk (by decide) rfl hRf hRl hc hZ hl.1 (Nat.le_of_ble_eq_true rfl) dL_law_520 (fun H locs hW hS => ?_)
    refine lv_i2l (v := lN (B 6 k 11)) hx hb dL_law_523 (nI_l (by omega)) ?_
    refine lv_lload hx hb dL_law_524 (lv_at hl 0 rfl) ?_
    refine W.lcmp hx hb dL_law_526 ?_
    rw [cmpE]
    refine lv_if_ne (tgt := 564) hx hb dL_law_527 (by decide) (fun c9 => absurd (rfl) c9) (fun _ => ?_)
    refine lv_aload_n hx hb dL_law_530 rfl (lv_at hl 3 rfl) ?_
    refine lv_iload hx hb dL_law_531 (lv_at hl 17 rfl) ?_
    refine lv_iconst (v := nI 5) hx hb dL_law_533 (by decide) ?_
    refine cBird C0 hlo hK hW hS hC hF (a := plA B k) hk (by decide) rfl hRf hRl hc hZ hl.1 (Nat.le_of_ble_eq_true rfl) dL_law_534 (fun H locs hW hS => ?_)
    refine lv_i2l (v := lN (plA B k)) hx hb dL_law_537 (nI_l (by omega)) ?_
    refine lv_lload hx hb dL_law_538 (lv_at hl 0 rfl) ?_
    refine lv_aload_n hx hb dL_law_540 rfl (lv_at hl 3 rfl) ?_
    refine lv_iload hx hb dL_law_541 (lv_at hl 17 rfl) ?_
    refine lv_iconst (v := nI 2) hx hb dL_law_543 (by decide) ?_
    refine cBird C0 hlo hK hW hS hC hF (a := B 6 k 2) hk (by decide) rfl hRf hRl hc hZ hl.1 (Nat.le_of_ble_eq_true rfl) dL_law_544 (fun H locs hW hS => ?_)
    refine lv_i2l (v := lN (B 6 k 2)) hx hb dL_law_547 (nI_l (by omega)) ?_
    refine lv_lrem hx hb dL_law_548 (lN_ne0 (by omega) (by omega)) ?_
    rw [pk_lRem (by omega) (by omega) (by omega)]
    refine W.lcmp hx hb dL_law_549 ?_
    rw [show plA B k = B 6 k 11 % B 6 k 2 from rfl, cmpE]
    refine lv_if_ne (tgt := 564) hx hb dL_law_550 (by decide) (fun c9 => absurd (rfl) c9) (fun _ => ?_)
    refine lv_lload hx hb dL_law_553 (lv_at hl 0 rfl) ?_
    refine lv_aload hx hb dL_law_555 (lv_at hl 12 rfl) ?_
    refine lv_iload hx hb dL_law_557 (lv_at hl 17 rfl) ?_
    refine xll C0 hK hW hq10 (nI_in (by omega) (by omega)) dL_law_559 ?_
    rw [nI_clamp (by omega), hv10 k hk]
    refine W.lcmp hx hb dL_law_560 ?_
    refine lv_if_ge (tgt := 566) hx hb dL_law_561 (by decide) (fun _ => ?_) (fun c9 => absurd (cmpG (hG k hk) (by omega)) c9)
    refine lv_iload hx hb dL_law_566 (lv_at hl 16 rfl) ?_
    refine lv_aload_n hx hb dL_law_568 rfl (lv_at hl 3 rfl) ?_
    refine lv_iload hx hb dL_law_569 (lv_at hl 17 rfl) ?_
    refine lv_bipush (v := nI 9) hx hb dL_law_571 (by decide) ?_
    refine cBird C0 hlo hK hW hS hC hF (a := B 6 k 12) hk (by decide) rfl hRf hRl hc hZ hl.1 (Nat.le_of_ble_eq_true rfl) dL_law_573 (fun H locs hW hS => ?_)
    refine lv_iadd hx hb dL_law_576 ?_
    rw [nI_add]
    refine lv_istore (lv' := [(14, .int (nI ((fb_sm (fun i => B 6 i 12) k) + (B 6 k 12)))), (17, .long (lN (B 6 k 11))), (16, .int (nI (B 6 k 0))), (0, .ref (b)), (1, .ref (h.2.2 0 0)), (2, .ref (sim)), (3, .int (nI (h.1))), (4, .int (nI (h.2.1))), (5, .int (nI (w))), (6, .int (nI (N))), (7, .int (nI (t))), (8, .ref (q8)), (9, .ref (q9)), (10, .ref (q10)), (11, .int (nI (sd))), (12, .int (nI (hs B h.1))), (13, .int (nI (ss B h.1))), (15, .int (nI (k)))]) hx hb dL_law_577 hl (by decide) rfl (fun ls hl => ?_)
    refine lv_iconst (v := nI 0) hx hb dL_law_579 (by decide) ?_
    refine lv_istore (lv' := [(19, .int (nI (0))), (14, .int (nI ((fb_sm (fun i => B 6 i 12) k) + (B 6 k 12)))), (17, .long (lN (B 6 k 11))), (16, .int (nI (B 6 k 0))), (0, .ref (b)), (1, .ref (h.2.2 0 0)), (2, .ref (sim)), (3, .int (nI (h.1))), (4, .int (nI (h.2.1))), (5, .int (nI (w))), (6, .int (nI (N))), (7, .int (nI (t))), (8, .ref (q8)), (9, .ref (q9)), (10, .ref (q10)), (11, .int (nI (sd))), (12, .int (nI (hs B h.1))), (13, .int (nI (ss B h.1))), (15, .int (nI (k)))]) hx hb dL_law_580 hl (by decide) rfl (fun ls hl => ?_)
    refine lp582 C0 hlo hK hRf hRl hc hZ hC hF hM hk 3 0 H locs ls (by omega) hW hS (lv_sub hl [4, 5, 6, 7, 8, 9, 10, 11, 12, 13, 14, 15, 16, 17, 1, 18, 3, 2, 0] rfl) (fun H locs ls hW hS hl => ?_)
    refine lv_iinc (v := nI (k + 1)) (lv' := [(15, .int (nI (k + 1))), (0, .ref (b)), (1, .ref (h.2.2 0 0)), (2, .ref (sim)), (3, .int (nI (h.1))), (4, .int (nI (h.2.1))), (5, .int (nI (w))), (6, .int (nI (N))), (7, .int (nI (t))), (8, .ref (q8)), (9, .ref (q9)), (10, .ref (q10)), (11, .int (nI (sd))), (12, .int (nI (hs B h.1))), (13, .int (nI (ss B h.1))), (14, .int (nI (fb_sm (fun i => B 6 i 12) k + B 6 k 12)))]) hx hb dL_law_749 hl (k := 15) rfl (nI_1 _) (by decide) rfl (fun ls hl => ?_)
    refine lv_goto (tgt := 458) hx hb dL_law_752 (by decide) ?_
    exact ih (k + 1) H locs ls (by omega) hW hS (lv_sub hl [1, 2, 3, 4, 5, 6, 7, 8, 9, 10, 11, 12, 13, 14, 15, 0] rfl) kk
end LAWA
