/-! A TICK OF THE LAW -/
theorem xU_id {X : Nat → Option va_E} {q : Nat} {e : va_E} (h : X q = some e) : xU X q e = X := by
  funext a
  by_cases z : a = q
  · rw [z, xU_self, h]
  · exact xU_ne z
theorem xnone {X : Nat → Option va_E} {q a : Nat} {e : va_E} (h : xU X q e a = none) : a ≠ q ∧ X a = none := by
  by_cases z : a = q
  · rw [z, xU_self] at h; cases h
  · rw [xU_ne z] at h; exact ⟨z, h⟩
theorem hs_le {A : Ab} {ns nb T : Nat} (h : Wf A ns nb T) : hs A ns ≤ 800000 := by
  have h4 := h.1
  have := fb_sm_bound (f := fun i => A 5 i 1) (c := 200000) (n := ns) (fun i hi => (h.2.2.2.1.1 i hi).2.2.1)
  unfold hs
  omega
theorem ss_le {A : Ab} {ns nb T t : Nat} (h : Wf A ns nb T) (ht : A 0 0 6 = t) : ss A ns ≤ 4 * (400 * t) := by
  have h4 := h.1
  have := fb_sm_bound (f := fun i => A 5 i 2) (c := 400 * t) (n := ns) (fun i hi => by have := (h.2.2.2.1.1 i hi).2.2.2.1; rw [ht] at this; exact this)
  unfold ss
  exact Nat.le_trans this (Nat.mul_le_mul_right _ h4)
theorem hs_cn {A : Ab} {ns nb T : Nat} (h : Wf A ns nb T) : cnA A ns nb 5 = hs A ns := by
  have h4 := h.1
  show fb_sm (fun i => A 5 i 1) 4 = fb_sm (fun i => A 5 i 1) ns
  rw [show 4 = ns + (4 - ns) by omega]
  exact sm_more (fun i hi => h.2.2.2.1.2 i hi 1) (4 - ns)
theorem Lw.w_le {ns nb w t : Nat} {A : Ab} (h : Lw ns nb w t A) (hW : Wf A ns nb 1) (ht : t ≤ 40) : w ≤ 9000000 := by
  obtain ⟨l0, l4, l6, ⟨m1, m2, m3, m4⟩, lo, lc⟩ := h
  have := hs_le hW
  have := ss_le hW l0
  omega
/-- what a tick leaves, as the law asks -/
theorem tk_fact {ns nb w t : Nat} {A D : Ab} (eD : D = tickA ns nb A) (h : Lw ns nb w t A) (hW : Wf A ns nb 1) (hD : Wf D ns nb 1) (ht : t < 40) :
    Lw ns nb w (t + 1) D ∧ Sp ns ns A D ∧ A 3 0 2 ≤ D 3 0 2 ∧ (∀ j, j < nb → A 6 j 11 ≤ D 6 j 11) ∧ (∀ j, D 6 j 2 = A 6 j 2) ∧ (∀ k x, D 12 k x = A 12 k x) ∧ ctA D (nI (t + 1)) (D 3 0 1) ≤ D 3 0 2 - A 3 0 2 ∧ (D 3 0 2 ≤ 250 → A 3 0 2 < D 3 0 2 → 1 ≤ ctA D (nI (t + 1)) (D 3 0 1)) := by
  obtain ⟨k1, k2, k3, k4⟩ := h.tick hW (by omega) hW.1 hW.2.1
  obtain ⟨-, ⟨o1, o2, o3, -⟩, -⟩ := tick_ok (ns := ns) (nb := nb) hW (by have := h.1; omega)
  rw [← eD] at k1 k2 k3 k4 o1 o2 o3
  have n4 := h.2.2.2.1.2.2.2
  have d4 := k1.2.2.2.1.2.2.2
  obtain ⟨c1, c2⟩ := ct_tick (A := D) (t := t) (K0 := A 3 0 1) (by omega) o3 k3 k4
  refine ⟨k1, k2, o2, fun j hj => ?_, fun j => o1 6 j 2 (by decide) (by decide) (by decide) (by omega) (by omega), fun k x => o1 12 k x (by decide) (by decide) (by decide) (by omega) (by omega), by omega, fun a1 a2 => c2 (by omega)⟩
  have b0 := (hW.2.2.2.2.1 j hj).1
  rw [(h.2.2.1 j hj).2.2, (k1.2.2.1 j hj).2.2]
  unfold comeA
  rw [o1 6 j 0 (by decide) (by decide) (by decide) (by omega) (by omega), o1 6 j 10 (by decide) (by decide) (by decide) (by omega) (by omega), o1 6 j 3 (by decide) (by decide) (by decide) (by omega) (by omega), o1 6 j 2 (by decide) (by decide) (by decide) (by omega) (by omega), o1 6 j 4 (by decide) (by decide) (by decide) (by omega) (by omega)]
  have := ((k2 _ b0).1 b0).2.1
  exact Nat.div_le_div_right (Nat.mul_le_mul_right _ (Nat.mul_le_mul_right _ (Nat.sub_le_sub_right (by omega) _)))
section LAWB
variable {p : Program} {l : Launch} {e : Env} {R : Room} {s : State} {m : MethodId} {args : Array Value} {below : List Frame} {meth : Method} {c : Code} {H : Heap} {locs : List Loc} {cells slots : Nat} {Q : State → Prop}
variable {lo b sim : Nat} {ls : Array Slot} {g : Gx} {h : Sh} {σ : Sg} {X : Nat → Option va_E} {B : Ab}
theorem tk56 (C0 : CallFix p m c cL_law 26 s args wB RL) (hlo : lo ≤ s.heap.size) (hK : KW g s) (hRf : 8 ≤ R.frames) (hRl : 250 ≤ R.locals) (hc : cells + 3 ≤ R.cells) (hZ : slots + 16 ≤ R.slots) (hC : Cm B h.1 h.2.1 σ) (hF : Wf B h.1 h.2.1 1) {w N t : Nat} (hW : FW (gX g X) h (Ax lo) σ H) (hS : va_S (Ax lo) s.heap H locs) (hl : lv_has ls 26 [(0, .ref (b)), (1, .ref (h.2.2 0 0)), (2, .ref (sim)), (3, .int (nI (h.1))), (4, .int (nI (h.2.1))), (5, .int (nI (w))), (6, .int (nI (N))), (7, .int (nI (t)))])
    (kk : ∀ (X3 : Nat → Option va_E) (q8 q9 q10 : Nat) (F8 F9 : Nat → Int32) (F10 : Nat → Int64) (H : Heap) (locs : List Loc) (ls : Array Slot), xLe X X3 → X q8 = none → q9 ≠ q8 → q10 ≠ q8 → X3 q8 = some (Ei F8 h.1 g.2.1.1) → X3 q9 = some (Ei F9 h.1 g.2.1.1) → X3 q10 = some (El F10 h.2.1 g.2.1.2.2.1) → (∀ j, j < h.1 → F9 j = nI (B 5 j 2)) → (∀ j, j < h.2.1 → F10 j = lN (B 6 j 11)) → FW (gX g X3) h (Ax lo) σ H → va_S (Ax lo) s.heap H locs → lv_has ls 26 [(0, .ref (b)), (1, .ref (h.2.2 0 0)), (2, .ref (sim)), (3, .int (nI (h.1))), (4, .int (nI (h.2.1))), (5, .int (nI (w))), (6, .int (nI (N))), (7, .int (nI (t))), (8, .ref (q8)), (9, .ref (q9)), (10, .ref (q10))] → W p l e R s m args below meth c H locs (cells + 1 + 1 + 1) (slots + h.1 + h.1 + h.2.1) Q (F0 m 129 ls [])) : W p l e R s m args below meth c H locs cells slots Q (F0 m 56 ls []) := by
  have hx := C0.1
  have hb := C0.2.1
  have h4 := hF.1
  have h8 := hF.2.1
  have hA : ∀ q : Nat, s.heap.size ≤ q → Ax lo q := fun q hq => Nat.le_trans hlo hq
  refine lv_iload_n hx hb dL_law_56 rfl (lv_at hl 3 rfl) ?_
  refine xni (N := h.1) C0 hK hW hS hA (nI_pos (by omega)) (nI_clamp (by omega)) (by omega) (by omega) (by omega) dL_law_57 (fun q8 H hq8 hW hS => ?_)
  refine lv_astore (lv' := [(8, .ref (q8)), (0, .ref (b)), (1, .ref (h.2.2 0 0)), (2, .ref (sim)), (3, .int (nI (h.1))), (4, .int (nI (h.2.1))), (5, .int (nI (w))), (6, .int (nI (N))), (7, .int (nI (t)))]) hx hb dL_law_59 hl (by decide) rfl (fun ls hl => ?_)
  refine lv_iload_n hx hb dL_law_61 rfl (lv_at hl 4 rfl) ?_
  refine xni (N := h.1) C0 hK hW hS hA (nI_pos (by omega)) (nI_clamp (by omega)) (by omega) (by omega) (by omega) dL_law_62 (fun q9 H hq9 hW hS => ?_)
  refine lv_astore (lv' := [(9, .ref (q9)), (8, .ref (q8)), (0, .ref (b)), (1, .ref (h.2.2 0 0)), (2, .ref (sim)), (3, .int (nI (h.1))), (4, .int (nI (h.2.1))), (5, .int (nI (w))), (6, .int (nI (N))), (7, .int (nI (t)))]) hx hb dL_law_64 hl (by decide) rfl (fun ls hl => ?_)
  refine lv_iconst (v := nI 0) hx hb dL_law_66 (by decide) ?_
  refine lv_istore (lv' := [(10, .int (nI (0))), (9, .ref (q9)), (8, .ref (q8)), (0, .ref (b)), (1, .ref (h.2.2 0 0)), (2, .ref (sim)), (3, .int (nI (h.1))), (4, .int (nI (h.2.1))), (5, .int (nI (w))), (6, .int (nI (N))), (7, .int (nI (t)))]) hx hb dL_law_67 hl (by decide) rfl (fun ls hl => ?_)
  refine lp69 C0 hlo hK hRf hRl (by omega) (by omega) hC hF h.1 0 (fun _ => 0) H locs ls (by omega) hW hS (fun j hj => absurd hj (Nat.not_lt_zero j)) (lv_sub hl [3, 4, 5, 6, 7, 8, 9, 10, 2, 1, 0] rfl) (fun F9 H locs ls hW hS hv9 hl => ?_)
  refine lv_iload hx hb dL_law_93 (lv_at hl 4 rfl) ?_
  refine xnl (N := h.2.1) C0 hK hW hS hA (nI_pos (by omega)) (nI_clamp (by omega)) (by omega) (by omega) (by omega) dL_law_95 (fun q10 H hq10 hW hS => ?_)
  refine lv_astore (lv' := [(10, .ref (q10)), (0, .ref (b)), (1, .ref (h.2.2 0 0)), (2, .ref (sim)), (3, .int (nI (h.1))), (4, .int (nI (h.2.1))), (5, .int (nI (w))), (6, .int (nI (N))), (7, .int (nI (t))), (8, .ref (q8)), (9, .ref (q9))]) hx hb dL_law_97 hl (by decide) rfl (fun ls hl => ?_)
  refine lv_iconst (v := nI 0) hx hb dL_law_99 (by decide) ?_
  refine lv_istore (lv' := [(11, .int (nI (0))), (10, .ref (q10)), (0, .ref (b)), (1, .ref (h.2.2 0 0)), (2, .ref (sim)), (3, .int (nI (h.1))), (4, .int (nI (h.2.1))), (5, .int (nI (w))), (6, .int (nI (N))), (7, .int (nI (t))), (8, .ref (q8)), (9, .ref (q9))]) hx hb dL_law_100 hl (by decide) rfl (fun ls hl => ?_)
  refine lp102 C0 hlo hK hRf hRl (by omega) (by omega) hC hF h.2.1 0 (fun _ => 0) H locs ls (by omega) hW hS (fun j hj => absurd hj (Nat.not_lt_zero j)) (lv_sub hl [2, 3, 4, 5, 6, 7, 8, 9, 10, 11, 1, 0] rfl) (fun F10 H locs ls hW hS hv10 hl => ?_)
  obtain ⟨n98, n9⟩ := xnone hq9
  obtain ⟨n109, n10⟩ := xnone hq10
  obtain ⟨n108, n10⟩ := xnone n10
  exact kk _ q8 q9 q10 (fun _ => 0) F9 F10 H locs ls ((xLe.nw hq8).tr ((xLe.nw hq9).tr (xLe.nw ((xU_ne n109).trans ((xU_ne n108).trans n10))))) hq8 n98 n108 ((xU_ne (Ne.symm n108)).trans ((xU_ne (Ne.symm n98)).trans (xU_self _ _ _))) ((xU_ne (Ne.symm n109)).trans (xU_self _ _ _)) (xU_self _ _ _) hv9 hv10 hW hS (lv_sub hl [0, 1, 2, 3, 4, 5, 6, 7, 8, 9, 10] rfl)
theorem tk129 (C0 : CallFix p m c cL_law 26 s args wB RL) (hlo : lo ≤ s.heap.size) (hK : KW g s) (hRf : 8 ≤ R.frames) (hRl : 250 ≤ R.locals) (hc : cells ≤ R.cells) (hZ : slots ≤ R.slots) {L : Nat} {xs : Nat → Int32} (hX : va_X b L xs s s.heap) (hb9 : b < lo) (hL : L ≤ 260) (hC : Cm B h.1 h.2.1 σ) (hF : Wf B h.1 h.2.1 1) (h1 : 0 < h.1) {w N t q8 q9 q10 : Nat} (ht : t < 40) (hLw : Lw h.1 h.2.1 w t B) (hW : FW (gX g X) h (Ax lo) σ H) (hS : va_S (Ax lo) s.heap H locs) (hl : lv_has ls 26 [(0, .ref (b)), (1, .ref (h.2.2 0 0)), (2, .ref (sim)), (3, .int (nI (h.1))), (4, .int (nI (h.2.1))), (5, .int (nI (w))), (6, .int (nI (N))), (7, .int (nI (t))), (8, .ref (q8)), (9, .ref (q9)), (10, .ref (q10))])
    (kk : ∀ (w9 : Nat) (B' : Ab) (σ : Sg) (H : Heap) (locs : List Loc) (ls : Array Slot), FW (gX g X) h (Ax lo) σ H → va_S (Ax lo) s.heap H locs → Cm B' h.1 h.2.1 σ → Wf B' h.1 h.2.1 1 → Lw h.1 h.2.1 w9 t B' → (∀ k i f, ¬ (k = 5 ∧ f = 1) → B' k i f = B k i f) → lv_has ls 26 [(0, .ref (b)), (1, .ref (h.2.2 0 0)), (2, .ref (sim)), (3, .int (nI (h.1))), (4, .int (nI (h.2.1))), (5, .int (nI (w9))), (6, .int (nI (N))), (7, .int (nI (t))), (8, .ref (q8)), (9, .ref (q9)), (10, .ref (q10))] → W p l e R s m args below meth c H locs cells slots Q (F0 m 236 ls [])) : W p l e R s m args below meth c H locs cells slots Q (F0 m 129 ls []) := by
  have hx := C0.1
  have hb := C0.2.1
  have h4 := hF.1
  have hw := hLw.w_le hF (by omega)
  refine lv_aload_n hx hb dL_law_129 rfl (lv_at hl 0 rfl) ?_
  refine lv_iload hx hb dL_law_130 (lv_at hl 7 rfl) ?_
  refine lv_bipush (v := nI 16) hx hb dL_law_132 (by decide) ?_
  refine lv_irem hx hb dL_law_134 (by decide) ?_
  rw [pk_rem (by omega) (by decide) (by decide)]
  refine cCell C0 hlo hK hW hS (k := t % 16) hX hb9 hL (by omega) hRf hRl hc hZ hl.1 (Nat.le_of_ble_eq_true rfl) dL_law_135 (fun v1 H locs hW hS => ?_)
  refine lv_iload hx hb dL_law_138 (lv_at hl 7 rfl) ?_
  refine lv_bipush (v := nI 16) hx hb dL_law_140 (by decide) ?_
  refine lv_idiv hx hb dL_law_142 (by decide) ?_
  rw [pk_div (by omega) (by decide) (by decide)]
  refine lv_ishr hx hb dL_law_143 ?_
  refine lv_iconst (v := nI 5) hx hb dL_law_144 (by decide) ?_
  refine cBelow C0 hlo hK hW hS (n := 5) (by decide) (by decide) hRf hRl hc hZ hl.1 (Nat.le_of_ble_eq_true rfl) dL_law_145 (fun j0 H locs hj0 hW hS => ?_)
  refine lv_if_ne (tgt := 236) hx hb dL_law_148 (by decide) (fun _ => kk w B σ H locs ls hW hS hC hF hLw (fun _ _ _ _ => rfl) (lv_sub hl [0, 1, 2, 3, 4, 5, 6, 7, 8, 9, 10] rfl)) (fun c0 => ?_)
  refine lv_aload_n hx hb dL_law_151 rfl (lv_at hl 0 rfl) ?_
  refine lv_iload hx hb dL_law_152 (lv_at hl 7 rfl) ?_
  refine lv_bipush (v := nI 16) hx hb dL_law_154 (by decide) ?_
  refine lv_irem hx hb dL_law_156 (by decide) ?_
  rw [pk_rem (by omega) (by decide) (by decide)]
  refine cCell C0 hlo hK hW hS (k := t % 16) hX hb9 hL (by omega) hRf hRl hc hZ hl.1 (Nat.le_of_ble_eq_true rfl) dL_law_157 (fun v2 H locs hW hS => ?_)
  refine lv_iconst (v := nI 3) hx hb dL_law_160 (by decide) ?_
  refine lv_ishr hx hb dL_law_161 ?_
  refine lv_iload_n hx hb dL_law_162 rfl (lv_at hl 3 rfl) ?_
  refine cBelow C0 hlo hK hW hS (n := h.1) h1 (by omega) hRf hRl hc hZ hl.1 (Nat.le_of_ble_eq_true rfl) dL_law_163 (fun i1 H locs hi1 hW hS => ?_)
  obtain ⟨-, -, b5, -⟩ := hF.2.2.2.1.1 i1 hi1
  refine lv_istore (lv' := [(11, .int (nI (i1))), (0, .ref (b)), (1, .ref (h.2.2 0 0)), (2, .ref (sim)), (3, .int (nI (h.1))), (4, .int (nI (h.2.1))), (5, .int (nI (w))), (6, .int (nI (N))), (7, .int (nI (t))), (8, .ref (q8)), (9, .ref (q9)), (10, .ref (q10))]) hx hb dL_law_166 hl (by decide) rfl (fun ls hl => ?_)
  refine lv_aload_n hx hb dL_law_168 rfl (lv_at hl 2 rfl) ?_
  refine lv_iload hx hb dL_law_169 (lv_at hl 0 rfl) ?_
  refine lv_iconst (v := nI 1) hx hb dL_law_171 (by decide) ?_
  refine cSpring C0 hlo hK hW hS hC hF (a := B 5 i1 1) hi1 (by decide) rfl hRf hRl hc hZ hl.1 (Nat.le_of_ble_eq_true rfl) dL_law_172 (fun H locs hW hS => ?_)
  refine lv_istore (lv' := [(12, .int (nI (B 5 i1 1))), (11, .int (nI (i1))), (0, .ref (b)), (1, .ref (h.2.2 0 0)), (2, .ref (sim)), (3, .int (nI (h.1))), (4, .int (nI (h.2.1))), (5, .int (nI (w))), (6, .int (nI (N))), (7, .int (nI (t))), (8, .ref (q8)), (9, .ref (q9)), (10, .ref (q10))]) hx hb dL_law_175 hl (by decide) rfl (fun ls hl => ?_)
  refine lv_iconst (v := nI 1) hx hb dL_law_177 (by decide) ?_
  refine lv_aload_n hx hb dL_law_178 rfl (lv_at hl 2 rfl) ?_
  refine lv_iload hx hb dL_law_179 (lv_at hl 9 rfl) ?_
  refine lv_bipush (v := nI 16) hx hb dL_law_181 (by decide) ?_
  refine lv_irem hx hb dL_law_183 (by decide) ?_
  rw [pk_rem (by omega) (by decide) (by decide)]
  refine cCell C0 hlo hK hW hS (k := t % 16) hX hb9 hL (by omega) hRf hRl hc hZ hl.1 (Nat.le_of_ble_eq_true rfl) dL_law_184 (fun v3 H locs hW hS => ?_)
  refine lv_iconst (v := nI 5) hx hb dL_law_187 (by decide) ?_
  refine lv_ishr hx hb dL_law_188 ?_
  refine lv_sipush (v := nI 5000) hx hb dL_law_189 (by decide) ?_
  refine cBelow C0 hlo hK hW hS (n := 5000) (by decide) (by decide) hRf hRl hc hZ hl.1 (Nat.le_of_ble_eq_true rfl) dL_law_192 (fun j2 H locs hj2 hW hS => ?_)
  refine lv_iadd hx hb dL_law_195 ?_
  rw [nI_add]
  refine lv_istore (lv' := [(13, .int (nI (1 + j2))), (12, .int (nI (B 5 i1 1))), (11, .int (nI (i1))), (0, .ref (b)), (1, .ref (h.2.2 0 0)), (2, .ref (sim)), (3, .int (nI (h.1))), (4, .int (nI (h.2.1))), (5, .int (nI (w))), (6, .int (nI (N))), (7, .int (nI (t))), (8, .ref (q8)), (9, .ref (q9)), (10, .ref (q10))]) hx hb dL_law_196 hl (by decide) rfl (fun ls hl => ?_)
  refine lv_aload_n hx hb dL_law_198 rfl (lv_at hl 4 rfl) ?_
  refine lv_iload hx hb dL_law_199 (lv_at hl 2 rfl) ?_
  refine lv_iload hx hb dL_law_201 (lv_at hl 0 rfl) ?_
  obtain ⟨v, ev⟩ : ∃ v, v = min (B 5 i1 1 + (1 + j2)) 200000 := ⟨_, rfl⟩
  obtain ⟨B2, eB⟩ : ∃ B2, B2 = aU B 5 i1 1 v := ⟨_, rfl⟩
  have hL2 := hLw.wind (v := v) hi1 (by omega)
  have b21 : B2 5 i1 1 = v := by rw [eB]; exact aU_same _ _ _ _ _
  have fr2 : ∀ k i f, ¬ (k = 5 ∧ f = 1) → B2 k i f = B k i f := fun k i f hn => by rw [eB, aU_eq, if_neg (fun z => hn ⟨z.1, z.2.2⟩)]
  refine cWind C0 hlo hK hW hS hC hF hi1 (by omega) (by omega) hRf hRl hc hZ hl.1 (Nat.le_of_ble_eq_true rfl) dL_law_203 (fun σ H locs hW hS hC hF => ?_)
  rw [← ev] at hC hF ⊢
  rw [← eB] at hC hF hL2
  refine lv_ldc (v := nI 200000) hx hb C0.2.2.2.1 (C0.2.2.2.2 _ wconstant_L_109) dL_law_206 ?_
  refine lv_iload hx hb dL_law_208 (lv_at hl 1 rfl) ?_
  refine lv_iload hx hb dL_law_210 (lv_at hl 0 rfl) ?_
  refine lv_iadd hx hb dL_law_212 ?_
  rw [nI_add]
  refine r_min C0 hl.1 wML_L_110 (Nat.le_trans (Nat.le_of_ble_eq_true rfl) hRf) (Nat.le_trans (Nat.le_of_ble_eq_true rfl) hRl) hc hZ dL_law_213 ?_
  rw [mn_nI (by omega) (by omega)]
  refine lv_icmp_eq (tgt := 221) hx hb dL_law_216 (by decide) (fun _ => ?_) (fun c9 => absurd (congrArg nI (by omega)) c9)
  refine lv_iload hx hb dL_law_221 (lv_at hl 8 rfl) ?_
  refine lv_aload_n hx hb dL_law_223 rfl (lv_at hl 4 rfl) ?_
  refine lv_iload hx hb dL_law_224 (lv_at hl 2 rfl) ?_
  refine lv_iconst (v := nI 1) hx hb dL_law_226 (by decide) ?_
  refine cSpring C0 hlo hK hW hS hC hF (a := v) hi1 (by decide) b21 hRf hRl hc hZ hl.1 (Nat.le_of_ble_eq_true rfl) dL_law_227 (fun H locs hW hS => ?_)
  refine lv_iload hx hb dL_law_230 (lv_at hl 1 rfl) ?_
  refine lv_isub hx hb dL_law_232 ?_
  rw [pk_sub (by omega)]
  refine lv_iadd hx hb dL_law_233 ?_
  rw [nI_add]
  refine lv_istore (lv' := [(5, .int (nI (w + (v - (B 5 i1 1))))), (13, .int (nI (1 + j2))), (12, .int (nI (B 5 i1 1))), (11, .int (nI (i1))), (0, .ref (b)), (1, .ref (h.2.2 0 0)), (2, .ref (sim)), (3, .int (nI (h.1))), (4, .int (nI (h.2.1))), (6, .int (nI (N))), (7, .int (nI (t))), (8, .ref (q8)), (9, .ref (q9)), (10, .ref (q10))]) hx hb dL_law_234 hl (by decide) rfl (fun ls hl => ?_)
  exact kk (w + (v - B 5 i1 1)) B2 σ H locs ls hW hS hC hF hL2 fr2 (lv_sub hl [4, 5, 6, 7, 8, 0, 9, 10, 11, 12, 13] rfl)
theorem tk236 (C0 : CallFix p m c cL_law 26 s args wB RL) (hlo : lo ≤ s.heap.size) (hK : KW g s) (hRf : 8 ≤ R.frames) (hRl : 250 ≤ R.locals) (hc : cells ≤ R.cells) (hZ : slots ≤ R.slots) (hC : Cm B h.1 h.2.1 σ) (hF : Wf B h.1 h.2.1 1) {Xb : Nat → Option va_E} (hM : SM g Xb h.1 h.2.1 sim B) {w t q8 q9 q10 : Nat} {F8 F9 : Nat → Int32} {F10 : Nat → Int64} (ht : t < 40) (hLw : Lw h.1 h.2.1 w t B) (hle : xLe Xb X) (n8 : Xb q8 = none) (n98 : q9 ≠ q8) (n108 : q10 ≠ q8) (hq8 : X q8 = some (Ei F8 h.1 g.2.1.1)) (hq9 : X q9 = some (Ei F9 h.1 g.2.1.1)) (hq10 : X q10 = some (El F10 h.2.1 g.2.1.2.2.1)) (hv9 : ∀ j, j < h.1 → F9 j = nI (B 5 j 2)) (hv10 : ∀ j, j < h.2.1 → F10 j = lN (B 6 j 11)) (hW : FW (gX g X) h (Ax lo) σ H) (hS : va_S (Ax lo) s.heap H locs) (hl : lv_has ls 26 [(0, .ref (b)), (1, .ref (h.2.2 0 0)), (2, .ref (sim)), (3, .int (nI (h.1))), (4, .int (nI (h.2.1))), (5, .int (nI (w))), (6, .int (nI (B 3 0 2))), (7, .int (nI (t))), (8, .ref (q8)), (9, .ref (q9)), (10, .ref (q10))])
    (kk : ∀ (D : Ab) (σ : Sg) (H : Heap) (locs : List Loc) (ls : Array Slot), FW (gX g Xb) h (Ax lo) σ H → va_S (Ax lo) s.heap H locs → Cm D h.1 h.2.1 σ → Wf D h.1 h.2.1 1 → Lw h.1 h.2.1 w (t + 1) D → SM g Xb h.1 h.2.1 sim D → lv_has ls 26 [(0, .ref (b)), (1, .ref (h.2.2 0 0)), (2, .ref (sim)), (3, .int (nI (h.1))), (4, .int (nI (h.2.1))), (5, .int (nI (w))), (6, .int (nI (D 3 0 2))), (7, .int (nI (t + 1)))] → W p l e R s m args below meth c H locs cells slots Q (F0 m 49 ls [])) : W p l e R s m args below meth c H locs cells slots Q (F0 m 236 ls []) := by
  have hx := C0.1
  have hb := C0.2.1
  have h4 := hF.1
  have h8 := hF.2.1
  obtain ⟨D, eD⟩ : ∃ D, D = tickA h.1 h.2.1 B := ⟨_, rfl⟩
  refine lv_aload_n hx hb dL_law_236 rfl (lv_at hl 1 rfl) ?_
  refine lv_iconst (v := nI 1) hx hb dL_law_237 (by decide) ?_
  have hF0 := hF
  refine cRun C0 hlo hK hW hS hC hF (by have := hLw.1; omega) hRf hRl hc hZ hl.1 (Nat.le_of_ble_eq_true rfl) dL_law_238 (fun σ H locs hW hS hC hF => ?_)
  rw [← eD] at hC hF ⊢
  obtain ⟨hL2, hp, a1, a2, a3, a4, a5, a6⟩ := tk_fact eD hLw hF0 hF ht
  have hw := hL2.w_le hF (by omega)
  obtain ⟨l0, l4, l6, ⟨m1, m2, m3, m4⟩, lo9, lc⟩ := id hL2
  have hM2 := hM.le (X' := Xb) (B' := D) xLe.rf a3 a4
  refine lv_istore (lv' := [(11, .int (nI (D 3 0 2 - B 3 0 2))), (0, .ref (b)), (1, .ref (h.2.2 0 0)), (2, .ref (sim)), (3, .int (nI (h.1))), (4, .int (nI (h.2.1))), (5, .int (nI (w))), (6, .int (nI (B 3 0 2))), (7, .int (nI (t))), (8, .ref (q8)), (9, .ref (q9)), (10, .ref (q10))]) hx hb dL_law_241 hl (by decide) rfl (fun ls hl => ?_)
  refine lv_iload hx hb dL_law_243 (lv_at hl 7 rfl) ?_
  refine lv_iload hx hb dL_law_245 (lv_at hl 0 rfl) ?_
  refine lv_iadd hx hb dL_law_247 ?_
  rw [nI_add]
  rw [show B 3 0 2 + (D 3 0 2 - B 3 0 2) = D 3 0 2 by omega]
  refine lv_istore (lv' := [(6, .int (nI (D 3 0 2))), (11, .int (nI (D 3 0 2 - B 3 0 2))), (0, .ref (b)), (1, .ref (h.2.2 0 0)), (2, .ref (sim)), (3, .int (nI (h.1))), (4, .int (nI (h.2.1))), (5, .int (nI (w))), (7, .int (nI (t))), (8, .ref (q8)), (9, .ref (q9)), (10, .ref (q10))]) hx hb dL_law_248 hl (by decide) rfl (fun ls hl => ?_)
  refine lv_iconst (v := nI 0) hx hb dL_law_250 (by decide) ?_
  refine lv_istore (lv' := [(12, .int (nI (0))), (6, .int (nI (D 3 0 2))), (11, .int (nI (D 3 0 2 - B 3 0 2))), (0, .ref (b)), (1, .ref (h.2.2 0 0)), (2, .ref (sim)), (3, .int (nI (h.1))), (4, .int (nI (h.2.1))), (5, .int (nI (w))), (7, .int (nI (t))), (8, .ref (q8)), (9, .ref (q9)), (10, .ref (q10))]) hx hb dL_law_251 hl (by decide) rfl (fun ls hl => ?_)
  refine lv_iconst (v := nI 0) hx hb dL_law_253 (by decide) ?_
  refine lv_istore (lv' := [(13, .int (nI (0))), (12, .int (nI (0))), (6, .int (nI (D 3 0 2))), (11, .int (nI (D 3 0 2 - B 3 0 2))), (0, .ref (b)), (1, .ref (h.2.2 0 0)), (2, .ref (sim)), (3, .int (nI (h.1))), (4, .int (nI (h.2.1))), (5, .int (nI (w))), (7, .int (nI (t))), (8, .ref (q8)), (9, .ref (q9)), (10, .ref (q10))]) hx hb dL_law_254 hl (by decide) rfl (fun ls hl => ?_)
  refine lv_iconst (v := nI 0) hx hb dL_law_256 (by decide) ?_
  refine lv_istore (lv' := [(14, .int (nI (0))), (13, .int (nI (0))), (12, .int (nI (0))), (6, .int (nI (D 3 0 2))), (11, .int (nI (D 3 0 2 - B 3 0 2))), (0, .ref (b)), (1, .ref (h.2.2 0 0)), (2, .ref (sim)), (3, .int (nI (h.1))), (4, .int (nI (h.2.1))), (5, .int (nI (w))), (7, .int (nI (t))), (8, .ref (q8)), (9, .ref (q9)), (10, .ref (q10))]) hx hb dL_law_257 hl (by decide) rfl (fun ls hl => ?_)
  have hW : FW (gX g (xU X q8 (Ei F8 h.1 g.2.1.1))) h (Ax lo) σ H := by rw [xU_id hq8]; exact hW
  refine lp259 C0 hlo hK hRf hRl hc hZ hC hF (G := B) hp hq9 hv9 n98 h.1 0 F8 H locs ls (by omega) hW hS (lv_sub hl [5, 6, 7, 8, 9, 10, 3, 11, 12, 13, 14, 4, 2, 1, 0] rfl) (fun F8 H locs ls hW hS hl => ?_)
  refine lv_iload hx hb dL_law_391 (lv_at hl 12 rfl) ?_
  refine lv_aload_n hx hb dL_law_393 rfl (lv_at hl 1 rfl) ?_
  refine lv_iconst (v := nI 5) hx hb dL_law_394 (by decide) ?_
  refine cCount C0 hlo hK hW hS hC hF (a := hs D h.1) (by decide) (hs_cn hF) hRf hRl hc hZ hl.1 (Nat.le_of_ble_eq_true rfl) dL_law_395 (fun H locs hW hS => ?_)
  refine lv_icmp_ne (tgt := 450) hx hb dL_law_398 (by decide) (fun c9 => absurd (congrArg nI (by omega)) c9) (fun _ => ?_)
  refine lv_iload hx hb dL_law_401 (lv_at hl 5 rfl) ?_
  refine lv_iload hx hb dL_law_403 (lv_at hl 12 rfl) ?_
  refine lv_isub hx hb dL_law_405 ?_
  rw [pk_sub (by omega)]
  refine lv_iload hx hb dL_law_406 (lv_at hl 13 rfl) ?_
  refine lv_isub hx hb dL_law_408 ?_
  rw [pk_sub (by omega)]
  refine lv_if_lt (tgt := 450) hx hb dL_law_409 (by decide) (fun c9 => absurd c9 (nI_pos (by omega))) (fun _ => ?_)
  refine lv_iload hx hb dL_law_412 (lv_at hl 5 rfl) ?_
  refine lv_iload hx hb dL_law_414 (lv_at hl 12 rfl) ?_
  refine lv_isub hx hb dL_law_416 ?_
  rw [pk_sub (by omega)]
  refine lv_iload hx hb dL_law_417 (lv_at hl 13 rfl) ?_
  refine lv_isub hx hb dL_law_419 ?_
  rw [pk_sub (by omega)]
  refine lv_bipush (v := nI 10) hx hb dL_law_420 (by decide) ?_
  refine lv_iload hx hb dL_law_422 (lv_at hl 6 rfl) ?_
  refine lv_imul hx hb dL_law_424 ?_
  rw [pk_mul]
  refine lv_icmp_gt (tgt := 450) hx hb dL_law_425 (by decide) (fun c9 => absurd c9 (nI_nlt (by omega) (by omega))) (fun _ => ?_)
  refine lv_aload_n hx hb dL_law_428 rfl (lv_at hl 1 rfl) ?_
  refine lv_iconst (v := nI 0) hx hb dL_law_429 (by decide) ?_
  refine cCount C0 hlo hK hW hS hC hF (a := D 0 0 6) (by decide) rfl hRf hRl hc hZ hl.1 (Nat.le_of_ble_eq_true rfl) dL_law_430 (fun H locs hW hS => ?_)
  refine lv_iload hx hb dL_law_433 (lv_at hl 7 rfl) ?_
  refine lv_iconst (v := nI 1) hx hb dL_law_435 (by decide) ?_
  refine lv_iadd hx hb dL_law_436 ?_
  rw [nI_add]
  refine lv_icmp_ne (tgt := 450) hx hb dL_law_437 (by decide) (fun c9 => absurd (congrArg nI (by omega)) c9) (fun _ => ?_)
  refine lv_aload_n hx hb dL_law_440 rfl (lv_at hl 1 rfl) ?_
  refine lv_iconst (v := nI 4) hx hb dL_law_441 (by decide) ?_
  refine cCount C0 hlo hK hW hS hC hF (a := D 3 0 2) (by decide) rfl hRf hRl hc hZ hl.1 (Nat.le_of_ble_eq_true rfl) dL_law_442 (fun H locs hW hS => ?_)
  refine lv_iload hx hb dL_law_445 (lv_at hl 6 rfl) ?_
  refine lv_icmp_eq (tgt := 452) hx hb dL_law_447 (by decide) (fun _ => ?_) (fun c9 => absurd (congrArg nI (by omega)) c9)
  refine lv_iconst (v := nI 0) hx hb dL_law_452 (by decide) ?_
  refine lv_istore (lv' := [(14, .int (nI (0))), (0, .ref (b)), (1, .ref (h.2.2 0 0)), (2, .ref (sim)), (3, .int (nI (h.1))), (4, .int (nI (h.2.1))), (5, .int (nI (w))), (6, .int (nI (D 3 0 2))), (7, .int (nI (t))), (8, .ref (q8)), (9, .ref (q9)), (10, .ref (q10)), (11, .int (nI (D 3 0 2 - B 3 0 2))), (12, .int (nI (hs D h.1))), (13, .int (nI (ss D h.1)))]) hx hb dL_law_453 hl (by decide) rfl (fun ls hl => ?_)
  refine lv_iconst (v := nI 0) hx hb dL_law_455 (by decide) ?_
  refine lv_istore (lv' := [(15, .int (nI (0))), (14, .int (nI (0))), (0, .ref (b)), (1, .ref (h.2.2 0 0)), (2, .ref (sim)), (3, .int (nI (h.1))), (4, .int (nI (h.2.1))), (5, .int (nI (w))), (6, .int (nI (D 3 0 2))), (7, .int (nI (t))), (8, .ref (q8)), (9, .ref (q9)), (10, .ref (q10)), (11, .int (nI (D 3 0 2 - B 3 0 2))), (12, .int (nI (hs D h.1))), (13, .int (nI (ss D h.1)))]) hx hb dL_law_456 hl (by decide) rfl (fun ls hl => ?_)
  have hle2 : xLe Xb (xU X q8 (Ei F8 h.1 g.2.1.1)) := fun a e9 ha => (xU_ne (fun z => by rw [z, n8] at ha; cases ha)).trans (hle a e9 ha)
  refine lp458 C0 hlo hK hRf hRl hc hZ hC hF (hM2.le hle2 (fun _ => rfl) (fun _ _ => rfl)) (fun i hi => (l6 i hi).2) (G := B) ((xU_ne n108).trans hq10) hv10 a2 (by omega) h.2.1 0 H locs ls (by omega) hW hS (lv_sub hl [2, 3, 4, 5, 6, 7, 8, 9, 10, 11, 12, 13, 14, 15, 1, 0] rfl) (fun H locs ls hW hS hl => ?_)
  refine lv_aload_n hx hb dL_law_755 rfl (lv_at hl 1 rfl) ?_
  refine lv_iload hx hb dL_law_756 (lv_at hl 7 rfl) ?_
  refine lv_iconst (v := nI 1) hx hb dL_law_758 (by decide) ?_
  refine lv_iadd hx hb dL_law_759 ?_
  rw [nI_add]
  refine cChord C0 hlo hK hW hS hC hF (t := t + 1) (by omega) hRf hRl hc hZ hl.1 (Nat.le_of_ble_eq_true rfl) dL_law_760 (fun H locs hW hS => ?_)
  refine lv_istore (lv' := [(15, .int (nI (ctA D (nI (t + 1)) (D 3 0 1)))), (0, .ref (b)), (1, .ref (h.2.2 0 0)), (2, .ref (sim)), (3, .int (nI (h.1))), (4, .int (nI (h.2.1))), (5, .int (nI (w))), (6, .int (nI (D 3 0 2))), (7, .int (nI (t))), (8, .ref (q8)), (9, .ref (q9)), (10, .ref (q10)), (11, .int (nI (D 3 0 2 - B 3 0 2))), (12, .int (nI (hs D h.1))), (13, .int (nI (ss D h.1))), (14, .int (nI (os D h.2.1)))]) hx hb dL_law_763 hl (by decide) rfl (fun ls hl => ?_)
  refine lv_iload hx hb dL_law_765 (lv_at hl 15 rfl) ?_
  refine lv_iload hx hb dL_law_767 (lv_at hl 7 rfl) ?_
  refine lv_icmp_ne (tgt := 810) hx hb dL_law_769 (by decide) (fun c9 => absurd (congrArg nI (by omega)) c9) (fun _ => ?_)
  refine lv_iload hx hb dL_law_772 (lv_at hl 0 rfl) ?_
  refine lv_iload hx hb dL_law_774 (lv_at hl 12 rfl) ?_
  refine lv_icmp_gt (tgt := 810) hx hb dL_law_776 (by decide) (fun c9 => absurd c9 (nI_nlt (by omega) (by omega))) (fun _ => ?_)
  have key : ∀ (ls : Array Slot), lv_has ls 26 [(15, .int (nI (ctA D (nI (t + 1)) (D 3 0 1)))), (0, .ref (b)), (1, .ref (h.2.2 0 0)), (2, .ref (sim)), (3, .int (nI (h.1))), (4, .int (nI (h.2.1))), (5, .int (nI (w))), (6, .int (nI (D 3 0 2))), (7, .int (nI (t))), (8, .ref (q8)), (9, .ref (q9)), (10, .ref (q10)), (11, .int (nI (D 3 0 2 - B 3 0 2))), (12, .int (nI (hs D h.1))), (13, .int (nI (ss D h.1))), (14, .int (nI (os D h.2.1)))] → W p l e R s m args below meth c H locs cells slots Q (F0 m 812 ls []) := by
    intro ls hl
    refine lv_iinc (v := nI (t + 1)) (lv' := [(7, .int (nI (t + 1))), (15, .int (nI (ctA D (nI (t + 1)) (D 3 0 1)))), (0, .ref (b)), (1, .ref (h.2.2 0 0)), (2, .ref (sim)), (3, .int (nI (h.1))), (4, .int (nI (h.2.1))), (5, .int (nI (w))), (6, .int (nI (D 3 0 2))), (8, .ref (q8)), (9, .ref (q9)), (10, .ref (q10)), (11, .int (nI (D 3 0 2 - B 3 0 2))), (12, .int (nI (hs D h.1))), (13, .int (nI (ss D h.1))), (14, .int (nI (os D h.2.1)))]) hx hb dL_law_812 hl (k := 8) rfl (nI_1 _) (by decide) rfl (fun ls hl => ?_)
    refine lv_goto (tgt := 49) hx hb dL_law_815 (by decide) ?_
    exact kk D σ H locs ls (hW.less hle2) hS hC hF hL2 hM2 (lv_sub hl [2, 3, 4, 5, 6, 7, 8, 0] rfl)
  refine lv_iload hx hb dL_law_779 (lv_at hl 7 rfl) ?_
  refine lv_sipush (v := nI 250) hx hb dL_law_781 (by decide) ?_
  refine lv_icmp_gt (tgt := 812) hx hb dL_law_784 (by decide) (fun _ => key ls hl) (fun c9 => ?_)
  have h250 : D 3 0 2 ≤ 250 := Nat.not_lt.mp (fun z => c9 (nI_lt (by omega) (by omega)))
  by_cases hz : D 3 0 2 - B 3 0 2 = 0
  · have z1 : ctA D (nI (t + 1)) (D 3 0 1) = 0 := by omega
    refine lv_iload hx hb dL_law_787 (lv_at hl 0 rfl) ?_
    refine lv_if_ne (tgt := 796) hx hb dL_law_789 (by decide) (fun c9 => absurd (by rw [z1]; rfl) c9) (fun _ => ?_)
    refine lv_iconst (v := nI 1) hx hb dL_law_792 (by decide) ?_
    refine lv_goto (tgt := 797) hx hb dL_law_793 (by decide) ?_
    refine lv_iload hx hb dL_law_797 (lv_at hl 12 rfl) ?_
    refine lv_if_ne (tgt := 806) hx hb dL_law_799 (by decide) (fun c9 => absurd (by rw [hz]; rfl) c9) (fun _ => ?_)
    refine lv_iconst (v := nI 1) hx hb dL_law_802 (by decide) ?_
    refine lv_goto (tgt := 807) hx hb dL_law_803 (by decide) ?_
    refine lv_icmp_eq (tgt := 812) hx hb dL_law_807 (by decide) (fun _ => ?_) (fun c9 => absurd (rfl) c9)
    exact key ls hl
  · have z1 : 1 ≤ ctA D (nI (t + 1)) (D 3 0 1) := a6 h250 (by omega)
    refine lv_iload hx hb dL_law_787 (lv_at hl 0 rfl) ?_
    refine lv_if_ne (tgt := 796) hx hb dL_law_789 (by decide) (fun _ => ?_) (fun c9 => absurd c9 (nI_ne0 (by omega) (by omega)))
    refine lv_iconst (v := nI 0) hx hb dL_law_796 (by decide) ?_
    refine lv_iload hx hb dL_law_797 (lv_at hl 12 rfl) ?_
    refine lv_if_ne (tgt := 806) hx hb dL_law_799 (by decide) (fun _ => ?_) (fun c9 => absurd c9 (nI_ne0 (by omega) (by omega)))
    refine lv_iconst (v := nI 0) hx hb dL_law_806 (by decide) ?_
    refine lv_icmp_eq (tgt := 812) hx hb dL_law_807 (by decide) (fun _ => ?_) (fun c9 => absurd (rfl) c9)
    exact key ls hl
theorem tk49 (C0 : CallFix p m c cL_law 26 s args wB RL) (hlo : lo ≤ s.heap.size) (hK : KW g s) (hRf : 8 ≤ R.frames) (hRl : 250 ≤ R.locals) {L : Nat} {xs : Nat → Int32} (hX : va_X b L xs s s.heap) (hb9 : b < lo) (hL : L ≤ 260) (h1 : 0 < h.1) {C1 S1 : Nat} (hC1 : C1 ≤ R.cells) (hS1 : S1 ≤ R.slots) :
    ∀ (k9 t w cells slots : Nat) (B : Ab) (σ : Sg) (H : Heap) (locs : List Loc) (ls : Array Slot), t + k9 = 40 → cells + 3 * k9 ≤ C1 → slots + 16 * k9 ≤ S1 → Cm B h.1 h.2.1 σ → Wf B h.1 h.2.1 1 → Lw h.1 h.2.1 w t B → SM g X h.1 h.2.1 sim B → FW (gX g X) h (Ax lo) σ H → va_S (Ax lo) s.heap H locs → lv_has ls 26 [(0, .ref (b)), (1, .ref (h.2.2 0 0)), (2, .ref (sim)), (3, .int (nI (h.1))), (4, .int (nI (h.2.1))), (5, .int (nI (w))), (6, .int (nI (B 3 0 2))), (7, .int (nI (t)))] →
      (∀ (w : Nat) (B : Ab) (σ : Sg) (H : Heap) (locs : List Loc) (ls : Array Slot), Cm B h.1 h.2.1 σ → Wf B h.1 h.2.1 1 → Lw h.1 h.2.1 w 40 B → FW (gX g X) h (Ax lo) σ H → va_S (Ax lo) s.heap H locs → lv_has ls 26 [(0, .ref (b)), (1, .ref (h.2.2 0 0)), (2, .ref (sim)), (3, .int (nI (h.1))), (4, .int (nI (h.2.1))), (5, .int (nI (w))), (6, .int (nI (B 3 0 2)))] → W p l e R s m args below meth c H locs C1 S1 Q (F0 m 818 ls [])) → W p l e R s m args below meth c H locs cells slots Q (F0 m 49 ls []) := by
  have hx := C0.1
  have hb := C0.2.1
  intro k9
  induction k9 with
  | zero =>
    intro t w cells slots B σ H locs ls ht hc9 hs9 hC hF hLw hM hW hS hl kk
    have ht : t = 40 := by omega
    subst ht
    refine lv_iload hx hb dL_law_49 (lv_at hl 7 rfl) ?_
    refine lv_bipush (v := nI 40) hx hb dL_law_51 (by decide) ?_
    refine lv_icmp_ge (tgt := 818) hx hb dL_law_53 (by decide) (fun _ => ?_) (fun c9 => absurd (nI_le (by omega) (by omega)) c9)
    exact W.widen (by omega) (by omega) (kk w B σ H locs ls hC hF hLw hW hS (lv_sub hl [0, 1, 2, 3, 4, 5, 6] rfl))
  | succ k9 ih =>
    intro t w cells slots B σ H locs ls ht9 hc9 hs9 hC hF hLw hM hW hS hl kk
    have ht : t < 40 := by omega
    have h4 := hF.1
    have h8 := hF.2.1
    refine lv_iload hx hb dL_law_49 (lv_at hl 7 rfl) ?_
    refine lv_bipush (v := nI 40) hx hb dL_law_51 (by decide) ?_
    refine lv_icmp_ge (tgt := 818) hx hb dL_law_53 (by decide) (fun c9 => absurd c9 (nI_ge (by omega) (by omega))) (fun _ => ?_)
    refine tk56 C0 hlo hK hRf hRl (by omega) (by omega) hC hF hW hS hl (fun X3 q8 q9 q10 F8 F9 F10 H locs ls hle n8 n98 n108 e8 e9 e10 hv9 hv10 hW hS hl => ?_)
    refine tk129 C0 hlo hK hRf hRl (by omega) (by omega) hX hb9 hL hC hF h1 ht hLw hW hS hl (fun w9 B2 σ H locs ls hW hS hC hF hLw fr hl => ?_)
    have e32 : B2 3 0 2 = B 3 0 2 := fr 3 0 2 (by omega)
    rw [← e32] at hl
    refine tk236 C0 hlo hK hRf hRl (by omega) (by omega) hC hF (hM.le xLe.rf (fun j => fr 6 j 2 (by omega)) (fun k x => fr 12 k x (by omega))) ht hLw hle n8 n98 n108 e8 e9 e10 (fun j hj => by rw [fr 5 j 2 (by omega)]; exact hv9 j hj) (fun j hj => by rw [fr 6 j 11 (by omega)]; exact hv10 j hj) hW hS hl (fun D σ H locs ls hW hS hC hF hLw hM hl => ?_)
    exact ih (t + 1) w9 _ _ D σ H locs ls (by omega) (by omega) (by omega) hC hF hLw hM hW hS hl kk
theorem od821 (C0 : CallFix p m c cL_law 26 s args wB RL) (hlo : lo ≤ s.heap.size) (hK : KW g s) (hRf : 8 ≤ R.frames) (hRl : 250 ≤ R.locals) (hc : cells ≤ R.cells) (hZ : slots ≤ R.slots) (hC : Cm B h.1 h.2.1 σ) (hF : Wf B h.1 h.2.1 1) {w : Nat} (hLw : Lw h.1 h.2.1 w 40 B) : ∀ (k9 j : Nat) (H : Heap) (locs : List Loc) (ls : Array Slot), j + 1 + k9 = max 1 (min 250 (B 3 0 2)) → FW (gX g X) h (Ax lo) σ H → va_S (Ax lo) s.heap H locs → lv_has ls 26 [(0, .ref (b)), (1, .ref (h.2.2 0 0)), (2, .ref (sim)), (3, .int (nI (h.1))), (4, .int (nI (h.2.1))), (5, .int (nI (w))), (6, .int (nI (B 3 0 2))), (7, .int (nI (j + 1)))] →
    (∀ (H : Heap) (locs : List Loc) (ls : Array Slot), FW (gX g X) h (Ax lo) σ H → va_S (Ax lo) s.heap H locs → lv_has ls 26 [(0, .ref (b)), (1, .ref (h.2.2 0 0)), (2, .ref (sim)), (3, .int (nI (h.1))), (4, .int (nI (h.2.1))), (5, .int (nI (w))), (6, .int (nI (B 3 0 2)))] → W p l e R s m args below meth c H locs cells slots Q (F0 m 939 ls [])) → W p l e R s m args below meth c H locs cells slots Q (F0 m 821 ls []) := by
  have hx := C0.1
  have hb := C0.2.1
  have h4 := hF.1
  have h8 := hF.2.1
  obtain ⟨l0, l4, l6, ⟨m1, m2, m3, m4⟩, ⟨o1, o2⟩, lc⟩ := hLw
  obtain ⟨g1, g2⟩ := hF.2.2.2.2.2.2.2.2.1
  have hgb := hF.2.2.2.2.1
  intro k9
  induction k9 with
  | zero =>
    intro j H locs ls hj hW hS hl kk
    refine lv_iload hx hb dL_law_821 (lv_at hl 7 rfl) ?_
    refine lv_sipush (v := nI 250) hx hb dL_law_823 (by decide) ?_
    refine lv_iload hx hb dL_law_826 (lv_at hl 6 rfl) ?_
    refine r_min C0 hl.1 wML_L_110 (Nat.le_trans (Nat.le_of_ble_eq_true rfl) hRf) (Nat.le_trans (Nat.le_of_ble_eq_true rfl) hRl) hc hZ dL_law_828 ?_
    rw [mn_nI (by omega) (by omega)]
    refine lv_icmp_ge (tgt := 939) hx hb dL_law_831 (by decide) (fun _ => ?_) (fun c9 => absurd (nI_le (by omega) (by omega)) c9)
    exact kk H locs ls hW hS (lv_sub hl [0, 1, 2, 3, 4, 5, 6] rfl)
  | succ k9 ih =>
    intro j H locs ls hj hW hS hl kk
    have hj1 : j + 1 < B 3 0 1 := by omega
    have o3 := o1 j hj1
    obtain ⟨b1, -⟩ := g2 (j + 1) hj1
    obtain ⟨b0, -⟩ := g2 j (by omega)
    have s1 := (hgb _ b1).1
    have s0 := (hgb _ b0).1
    have t1 := o2 (j + 1) hj1
    have t0 := o2 j (by omega)
    unfold kl at o3 t1 t0
    refine lv_iload hx hb dL_law_821 (lv_at hl 7 rfl) ?_
    refine lv_sipush (v := nI 250) hx hb dL_law_823 (by decide) ?_
    refine lv_iload hx hb dL_law_826 (lv_at hl 6 rfl) ?_
    refine r_min C0 hl.1 wML_L_110 (Nat.le_trans (Nat.le_of_ble_eq_true rfl) hRf) (Nat.le_trans (Nat.le_of_ble_eq_true rfl) hRl) hc hZ dL_law_828 ?_
    rw [mn_nI (by omega) (by omega)]
    refine lv_icmp_ge (tgt := 939) hx hb dL_law_831 (by decide) (fun c9 => absurd c9 (nI_ge (by omega) (by omega))) (fun _ => ?_)
    refine lv_aload_n hx hb dL_law_834 rfl (lv_at hl 1 rfl) ?_
    refine lv_iload hx hb dL_law_835 (lv_at hl 7 rfl) ?_
    refine lv_iconst (v := nI 0) hx hb dL_law_837 (by decide) ?_
    refine cSung C0 hlo hK hW hS hC hF (k := j + 1) (u := 0) hj1 (by decide) hRf hRl hc hZ hl.1 (Nat.le_of_ble_eq_true rfl) dL_law_838 (fun H locs hW hS => ?_)
    refine lv_istore (lv' := [(8, .int (nI (B 4 0 (4 * (j + 1))))), (0, .ref (b)), (1, .ref (h.2.2 0 0)), (2, .ref (sim)), (3, .int (nI (h.1))), (4, .int (nI (h.2.1))), (5, .int (nI (w))), (6, .int (nI (B 3 0 2))), (7, .int (nI (j + 1)))]) hx hb dL_law_841 hl (by decide) rfl (fun ls hl => ?_)
    refine lv_aload_n hx hb dL_law_843 rfl (lv_at hl 2 rfl) ?_
    refine lv_iload hx hb dL_law_844 (lv_at hl 8 rfl) ?_
    refine lv_iconst (v := nI 1) hx hb dL_law_846 (by decide) ?_
    refine lv_isub hx hb dL_law_847 ?_
    rw [pk_sub (by omega)]
    rw [show j + 1 - 1 = j by omega]
    refine lv_iconst (v := nI 0) hx hb dL_law_848 (by decide) ?_
    refine cSung C0 hlo hK hW hS hC hF (k := j) (u := 0) (by omega) (by decide) hRf hRl hc hZ hl.1 (Nat.le_of_ble_eq_true rfl) dL_law_849 (fun H locs hW hS => ?_)
    refine lv_istore (lv' := [(9, .int (nI (B 4 0 (4 * j)))), (8, .int (nI (B 4 0 (4 * (j + 1))))), (0, .ref (b)), (1, .ref (h.2.2 0 0)), (2, .ref (sim)), (3, .int (nI (h.1))), (4, .int (nI (h.2.1))), (5, .int (nI (w))), (6, .int (nI (B 3 0 2))), (7, .int (nI (j + 1)))]) hx hb dL_law_852 hl (by decide) rfl (fun ls hl => ?_)
    refine lv_aload_n hx hb dL_law_854 rfl (lv_at hl 3 rfl) ?_
    refine lv_aload_n hx hb dL_law_855 rfl (lv_at hl 3 rfl) ?_
    refine lv_iload hx hb dL_law_856 (lv_at hl 9 rfl) ?_
    refine lv_iconst (v := nI 1) hx hb dL_law_858 (by decide) ?_
    refine cSung C0 hlo hK hW hS hC hF (k := j + 1) (u := 1) hj1 (by decide) hRf hRl hc hZ hl.1 (Nat.le_of_ble_eq_true rfl) dL_law_859 (fun H locs hW hS => ?_)
    refine lv_iconst (v := nI 0) hx hb dL_law_862 (by decide) ?_
    refine cBird C0 hlo hK hW hS hC hF (a := B 6 (B 4 0 (4 * (j + 1) + 1)) 0) b1 (by decide) rfl hRf hRl hc hZ hl.1 (Nat.le_of_ble_eq_true rfl) dL_law_863 (fun H locs hW hS => ?_)
    refine lv_istore (lv' := [(10, .int (nI (B 6 (B 4 0 (4 * (j + 1) + 1)) 0))), (9, .int (nI (B 4 0 (4 * j)))), (8, .int (nI (B 4 0 (4 * (j + 1))))), (0, .ref (b)), (1, .ref (h.2.2 0 0)), (2, .ref (sim)), (3, .int (nI (h.1))), (4, .int (nI (h.2.1))), (5, .int (nI (w))), (6, .int (nI (B 3 0 2))), (7, .int (nI (j + 1)))]) hx hb dL_law_866 hl (by decide) rfl (fun ls hl => ?_)
    refine lv_aload_n hx hb dL_law_868 rfl (lv_at hl 4 rfl) ?_
    refine lv_aload_n hx hb dL_law_869 rfl (lv_at hl 4 rfl) ?_
    refine lv_iload hx hb dL_law_870 (lv_at hl 10 rfl) ?_
    refine lv_iconst (v := nI 1) hx hb dL_law_872 (by decide) ?_
    refine lv_isub hx hb dL_law_873 ?_
    rw [pk_sub (by omega)]
    rw [show j + 1 - 1 = j by omega]
    refine lv_iconst (v := nI 1) hx hb dL_law_874 (by decide) ?_
    refine cSung C0 hlo hK hW hS hC hF (k := j) (u := 1) (by omega) (by decide) hRf hRl hc hZ hl.1 (Nat.le_of_ble_eq_true rfl) dL_law_875 (fun H locs hW hS => ?_)
    refine lv_iconst (v := nI 0) hx hb dL_law_878 (by decide) ?_
    refine cBird C0 hlo hK hW hS hC hF (a := B 6 (B 4 0 (4 * j + 1)) 0) b0 (by decide) rfl hRf hRl hc hZ hl.1 (Nat.le_of_ble_eq_true rfl) dL_law_879 (fun H locs hW hS => ?_)
    refine lv_istore (lv' := [(11, .int (nI (B 6 (B 4 0 (4 * j + 1)) 0))), (10, .int (nI (B 6 (B 4 0 (4 * (j + 1) + 1)) 0))), (9, .int (nI (B 4 0 (4 * j)))), (8, .int (nI (B 4 0 (4 * (j + 1))))), (0, .ref (b)), (1, .ref (h.2.2 0 0)), (2, .ref (sim)), (3, .int (nI (h.1))), (4, .int (nI (h.2.1))), (5, .int (nI (w))), (6, .int (nI (B 3 0 2))), (7, .int (nI (j + 1)))]) hx hb dL_law_882 hl (by decide) rfl (fun ls hl => ?_)
    refine lv_iload hx hb dL_law_884 (lv_at hl 3 rfl) ?_
    refine lv_iload hx hb dL_law_886 (lv_at hl 2 rfl) ?_
    refine lv_icmp_lt (tgt := 931) hx hb dL_law_888 (by decide) (fun c9 => absurd c9 (nI_nlt (by omega) (by omega))) (fun _ => ?_)
    have key : ∀ (H : Heap) (locs : List Loc) (ls : Array Slot), FW (gX g X) h (Ax lo) σ H → va_S (Ax lo) s.heap H locs → lv_has ls 26 [(11, .int (nI (B 6 (B 4 0 (4 * j + 1)) 0))), (10, .int (nI (B 6 (B 4 0 (4 * (j + 1) + 1)) 0))), (9, .int (nI (B 4 0 (4 * j)))), (8, .int (nI (B 4 0 (4 * (j + 1))))), (0, .ref (b)), (1, .ref (h.2.2 0 0)), (2, .ref (sim)), (3, .int (nI (h.1))), (4, .int (nI (h.2.1))), (5, .int (nI (w))), (6, .int (nI (B 3 0 2))), (7, .int (nI (j + 1)))] → W p l e R s m args below meth c H locs cells slots Q (F0 m 933 ls []) := by
      intro H locs ls hW hS hl
      refine lv_iinc (v := nI (j + 1 + 1)) (lv' := [(7, .int (nI (j + 1 + 1))), (11, .int (nI (B 6 (B 4 0 (4 * j + 1)) 0))), (10, .int (nI (B 6 (B 4 0 (4 * (j + 1) + 1)) 0))), (9, .int (nI (B 4 0 (4 * j)))), (8, .int (nI (B 4 0 (4 * (j + 1))))), (0, .ref (b)), (1, .ref (h.2.2 0 0)), (2, .ref (sim)), (3, .int (nI (h.1))), (4, .int (nI (h.2.1))), (5, .int (nI (w))), (6, .int (nI (B 3 0 2)))]) hx hb dL_law_933 hl (k := 11) rfl (nI_1 _) (by decide) rfl (fun ls hl => ?_)
      refine lv_goto (tgt := 821) hx hb dL_law_936 (by decide) ?_
      exact ih (j + 1) H locs ls (by omega) hW hS (lv_sub hl [5, 6, 7, 8, 9, 10, 11, 0] rfl) kk
    refine lv_iload hx hb dL_law_891 (lv_at hl 3 rfl) ?_
    refine lv_iload hx hb dL_law_893 (lv_at hl 2 rfl) ?_
    refine lv_icmp_ne (tgt := 933) hx hb dL_law_895 (by decide) (fun _ => key H locs ls hW hS hl) (fun c9 => ?_)
    have c1 : B 4 0 (4 * (j + 1)) = B 4 0 (4 * j) := (nI_eq (by omega) (by omega)).mp c9
    refine lv_iload hx hb dL_law_898 (lv_at hl 1 rfl) ?_
    refine lv_iload hx hb dL_law_900 (lv_at hl 0 rfl) ?_
    refine lv_icmp_lt (tgt := 931) hx hb dL_law_902 (by decide) (fun c9 => absurd c9 (nI_nlt (by omega) (by omega))) (fun _ => ?_)
    refine lv_iload hx hb dL_law_905 (lv_at hl 1 rfl) ?_
    refine lv_iload hx hb dL_law_907 (lv_at hl 0 rfl) ?_
    refine lv_icmp_ne (tgt := 933) hx hb dL_law_909 (by decide) (fun _ => key H locs ls hW hS hl) (fun c9 => ?_)
    have c2 : B 6 (B 4 0 (4 * (j + 1) + 1)) 0 = B 6 (B 4 0 (4 * j + 1)) 0 := (nI_eq (by omega) (by omega)).mp c9
    refine lv_aload_n hx hb dL_law_912 rfl (lv_at hl 5 rfl) ?_
    refine lv_iload hx hb dL_law_913 (lv_at hl 11 rfl) ?_
    refine lv_iconst (v := nI 1) hx hb dL_law_915 (by decide) ?_
    refine cSung C0 hlo hK hW hS hC hF (k := j + 1) (u := 1) hj1 (by decide) hRf hRl hc hZ hl.1 (Nat.le_of_ble_eq_true rfl) dL_law_916 (fun H locs hW hS => ?_)
    refine lv_aload_n hx hb dL_law_919 rfl (lv_at hl 5 rfl) ?_
    refine lv_iload hx hb dL_law_920 (lv_at hl 11 rfl) ?_
    refine lv_iconst (v := nI 1) hx hb dL_law_922 (by decide) ?_
    refine lv_isub hx hb dL_law_923 ?_
    rw [pk_sub (by omega)]
    rw [show j + 1 - 1 = j by omega]
    refine lv_iconst (v := nI 1) hx hb dL_law_924 (by decide) ?_
    refine cSung C0 hlo hK hW hS hC hF (k := j) (u := 1) (by omega) (by decide) hRf hRl hc hZ hl.1 (Nat.le_of_ble_eq_true rfl) dL_law_925 (fun H locs hW hS => ?_)
    refine lv_icmp_ge (tgt := 933) hx hb dL_law_928 (by decide) (fun _ => ?_) (fun c9 => absurd (nI_le (by omega) (by omega)) c9)
    exact key H locs ls hW hS hl
theorem en939 (C0 : CallFix p m c cL_law 26 s args wB RL) (hlo : lo ≤ s.heap.size) (hK : KW g s) (hRf : 8 ≤ R.frames) (hRl : 250 ≤ R.locals) (hc : cells ≤ R.cells) (hZ : slots ≤ R.slots) (hC : Cm B h.1 h.2.1 σ) (hF : Wf B h.1 h.2.1 1) {w : Nat} (hLw : Lw h.1 h.2.1 w 40 B) (hW : FW (gX g X) h (Ax lo) σ H) (hS : va_S (Ax lo) s.heap H locs) (hl : lv_has ls 26 [(0, .ref (b)), (1, .ref (h.2.2 0 0)), (2, .ref (sim)), (3, .int (nI (h.1))), (4, .int (nI (h.2.1))), (5, .int (nI (w))), (6, .int (nI (B 3 0 2)))])
    (kk : ∀ (σ : Sg) (H : Heap) (locs : List Loc) (ls : Array Slot), FW (gX g X) h (Ax lo) σ H → va_S (Ax lo) s.heap H locs → W p l e R s m args below meth c H locs cells slots Q (F0 m 981 ls [.int 1])) : W p l e R s m args below meth c H locs cells slots Q (F0 m 939 ls []) := by
  have hx := C0.1
  have hb := C0.2.1
  obtain ⟨l0, l4, l6, ⟨m1, m2, m3, m4⟩, ⟨o1, o2⟩, lc⟩ := hLw
  have t1 := lgT_le B
  have t2 : lgT (emA B) = 0 := Nat.le_zero.mp (lgT_le (emA B))
  refine lv_aload_n hx hb dL_law_939 rfl (lv_at hl 1 rfl) ?_
  refine cLongest C0 hlo hK hW hS hC hF hRf hRl hc hZ hl.1 (Nat.le_of_ble_eq_true rfl) dL_law_940 (fun H locs hW hS => ?_)
  refine lv_sipush (v := nI 250) hx hb dL_law_943 (by decide) ?_
  refine lv_iload hx hb dL_law_946 (lv_at hl 6 rfl) ?_
  refine r_min C0 hl.1 wML_L_110 (Nat.le_trans (Nat.le_of_ble_eq_true rfl) hRf) (Nat.le_trans (Nat.le_of_ble_eq_true rfl) hRl) hc hZ dL_law_948 ?_
  rw [mn_nI (by omega) (by omega)]
  refine lv_icmp_gt (tgt := 980) hx hb dL_law_951 (by decide) (fun c9 => absurd c9 (nI_nlt (by omega) (by omega))) (fun _ => ?_)
  refine lv_aload_n hx hb dL_law_954 rfl (lv_at hl 1 rfl) ?_
  refine cEmpty C0 hlo hK hW hS hC hF hRf hRl hc hZ hl.1 (Nat.le_of_ble_eq_true rfl) dL_law_955 (fun σ H locs hW hS hC hF => ?_)
  refine lv_sipush (v := nI 250) hx hb dL_law_958 (by decide) ?_
  refine lv_iload hx hb dL_law_961 (lv_at hl 6 rfl) ?_
  refine r_min C0 hl.1 wML_L_110 (Nat.le_trans (Nat.le_of_ble_eq_true rfl) hRf) (Nat.le_trans (Nat.le_of_ble_eq_true rfl) hRl) hc hZ dL_law_963 ?_
  rw [mn_nI (by omega) (by omega)]
  refine lv_icmp_ne (tgt := 980) hx hb dL_law_966 (by decide) (fun c9 => absurd (congrArg nI (by omega)) c9) (fun _ => ?_)
  refine lv_aload_n hx hb dL_law_969 rfl (lv_at hl 1 rfl) ?_
  refine cLongest C0 hlo hK hW hS hC hF hRf hRl hc hZ hl.1 (Nat.le_of_ble_eq_true rfl) dL_law_970 (fun H locs hW hS => ?_)
  refine lv_if_ne (tgt := 980) hx hb dL_law_973 (by decide) (fun c9 => absurd (by rw [t2]; rfl) c9) (fun _ => ?_)
  refine lv_iconst (v := nI 1) hx hb dL_law_976 (by decide) ?_
  refine lv_goto (tgt := 981) hx hb dL_law_977 (by decide) ?_
  exact kk σ H locs ls hW hS
end LAWB
