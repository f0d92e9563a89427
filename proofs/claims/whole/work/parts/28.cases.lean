/-! THE LAW'S CASES -/
theorem lg_cmp_self (x : Int64) : lg_cmp x x = 0 := by
  unfold lg_cmp; simp
section LAWROWS
variable {p : Program} {l : Launch} {e : Env} {R : Room} {s : State} {m : MethodId} {args : Array Value} {below : List Frame} {meth : Method} {c : Code} {H : Heap} {locs : List Loc} {cells slots : Nat} {Q : State → Prop}
variable {cc bytes : ByteArray} {pc nL maxL index n lo mc ms fr lw : Nat} {ls : Array Slot} {rest st0 As : List Value} {own C : String} {g : Gx} {h : Sh} {σ σ1 : Sg} {y : MethodName} {ret : Option FieldType} {b L : Nat} {xs : Nat → Int32} {Qc : Array Value → State → Outcome → State → Prop}
theorem rdS (C0 : CallFix p m c cc nL s args wB own) (hX : va_X b L xs s s.heap) (hbl : b < s.heap.size) (hbA : ¬ Ax lo b) (hS : va_S (Ax lo) s.heap H locs) {i : Nat} (hi : i + 6 ≤ L) (hL : L ≤ 3072) (j : Nat) (hj : j < 6) (hdg : decode cc pc = .ok (.iaload, 1))
    (kk : W p l e R s m args below meth c H locs cells slots Q (F0 m (pc + 1) ls (.int (xs (i + j)) :: rest))) : W p l e R s m args below meth c H locs cells slots Q (F0 m pc ls (.int (nI i + nI j) :: .ref b :: rest)) := by
  have e1 : nI i + nI j = nI (i + j) := nI_add i j
  have e2 : (nI (i + j)).toNatClampNeg = i + j := nI_clamp (by omega)
  rw [e1]
  refine va_sld C0.1 C0.2.1 hX hbl hbA hS (nI_in (c := i + j) (N := L) (by omega) (by omega)) hdg ?_
  rw [e2]
  exact kk
theorem runSW {hh : List (Nat × Nat × Nat × Nat)} (C0 : CallFix p m c cc nL s args wB own) (hlo : lo ≤ s.heap.size) (hK : KW g s) (hZ : ZW lo s s.heap) (hW : FW g h (Ax lo) σ H) (hS : va_S (Ax lo) s.heap H locs)
    (hM : Met l y (wsW y bytes maxL ret hh) { frames := fr, cells := mc, slots := ms, locals := lw } (va_Pc As (WD lo g h σ)) Qc mc ms (Ax lo))
    (hco : Cond.codeWith y bytes maxL ret hh ∈ wB) (h1 : Cond.methodLink own index y ∈ wB) (h2 : Cond.static y ∈ wB) (h3 : Cond.initialized y.cls ∈ wB)
    (hd : y.cls ≠ "java/lang/invoke/MethodHandle" ∧ y.cls ≠ "java/lang/invoke/VarHandle" ∧ (parseMethodDescriptor y.desc).map (fun d => d.parameters.length) = some n) (hR : fr + 1 ≤ R.frames ∧ 8 + (maxL + 11) + lw ≤ R.locals)
    (hn : As.length = n) (hsize : ls.size = nL) (hst : st0 = As.reverse ++ rest) (hrm : (rest.map fun v => v.category).sum ≤ 8) (hdg : decode cc pc = .ok (.invokestatic index, 3)) (hf : cells + mc ≤ R.cells ∧ slots + ms ≤ R.slots) :
    va_Run p l e R s m args below meth c H locs cells slots mc ms (F0 m pc ls st0) rest (Qc As.toArray) (Ax lo) :=
  vx_runSW (As := As) (rest := rest) C0 hM (vx_cwSW n C0.2.2.2.2 (gS (wsW_good hco) h1 h2 h3) rfl rfl rfl hd hR) ⟨WD.blind, fun U hU hw => ⟨rfl, WD.at hlo hK hZ hW hS U hU hw⟩⟩ rfl hn hsize hst (lv_room hrm) hdg hf
end LAWROWS
set_option maxHeartbeats 4000000 in
theorem sL_addSpring {p : Program} {l : Launch} {e : Env} {s : State} {m : MethodId} {args : Array Value} {below : List Frame} {meth : Method} {c : Code} {H : Heap} {locs : List Loc} {cells slots : Nat} {Q : State → Prop} {lo b L i : Nat} {xs : Nat → Int32} {g : Gx} {h : Sh} {σ : Sg} {ls : Array Slot} (C0 : CallFix p m c cL_law 9 s args wB RL) (hnt : l.stackTraces = false) (hlo : lo ≤ s.heap.size) (hK : KW g s) (hZ : ZW lo s s.heap) (hX : va_X b L xs s s.heap) (hbl : b < s.heap.size) (hbA : ¬ Ax lo b) (hi : i + 6 ≤ L) (hL : L ≤ 3072) (hcl : cells + 300 ≤ room_1.cells) (hsl : slots + 1100 ≤ room_1.slots) (hW : FW g h (Ax lo) σ H) (hS : va_S (Ax lo) s.heap H locs) (hl : lv_has ls 9 [(4, .int (nI i)), (3, .ref (h.2.2 30 0)), (2, .ref (h.2.2 20 0)), (1, .ref (h.2.2 0 0)), (0, .ref b)])
    {k bv : Int32} {σ1 σ2 : Sg} (hP1 : FL_addSpring h.1 h.2.1 σ (xs (i + 1)) = some (k, σ1)) (hP2 : FX5_addSpring (if k = 0 then h.1 + 1 else h.1) h.2.1 σ1 (xs (i + 1)) = some (bv, σ2)) (hT : σ2.1 20 0 0 = k) (hV : k = 0 → σ2.2 30 0 0 = bv.toInt64) (kk : ∀ (h' : Sh), h'.1 = (if k = 0 then h.1 + 1 else h.1) → h'.2.1 = h.2.1 → h'.2.2 0 0 = h.2.2 0 0 → h'.2.2 20 0 = h.2.2 20 0 → h'.2.2 30 0 = h.2.2 30 0 → ∀ (H1 : Heap) (locs1 : List Loc) (ls1 : Array Slot), FW g h' (Ax lo) σ2 H1 → va_S (Ax lo) s.heap H1 locs1 → lv_has ls1 9 [(4, .int (nI i)), (3, .ref (h'.2.2 30 0)), (2, .ref (h'.2.2 20 0)), (1, .ref (h'.2.2 0 0)), (0, .ref b)] → W p l e room_1 s m args below meth c H1 locs1 (cells + 300) (slots + 1100) Q (F0 m 1487 ls1 [])) : W p l e room_1 s m args below meth c H locs cells slots Q (F0 m 140 ls []) := by
  have hx := C0.1
  have hb := C0.2.1
  have hP3 : FX5_thrown h.1 h.2.1 σ2 = some (k, σ2) := by rw [← hT]; rfl
  refine lv_aload_n hx hb dL_law_140 rfl (lv_at hl 3 rfl) ?_
  refine lv_aload_n hx hb dL_law_141 rfl (lv_at hl 4 rfl) ?_
  refine lv_iload hx hb dL_law_142 (lv_at hl 0 rfl) ?_
  refine lv_iconst (v := 1) hx hb dL_law_144 (by decide) ?_
  refine lv_iadd hx hb dL_law_145 ?_
  refine rdS C0 hX hbl hbA hS hi hL 1 (by decide) dL_law_146 ?_
  refine lv_aload_n hx hb dL_law_147 rfl (lv_at hl 1 rfl) ?_
  refine va_calli (runSW C0 hlo hK hZ hW hS (kL_addSpring l hnt lo g h σ (xs (i + 1)) _ _ hP1) wCW_L_addSpring wML_L_77 wST_L_addSpring wIN_L hdsL_addSpring ⟨(Nat.le_of_ble_eq_true rfl), (Nat.le_of_ble_eq_true rfl)⟩ rfl hl.1 rfl (Nat.le_of_ble_eq_true rfl) dL_law_148 ⟨(by omega), (by omega)⟩) hS (fun _ _ q => q) (fun _ q => q) (fun r' v t H1 locs1 ht hvm hw hB hz hk hS => ?_)
  subst hw
  subst ht
  obtain ⟨h', eh⟩ : ∃ q : Sh, q = (if r' = 0 then shS h v else h) := ⟨_, rfl⟩
  have hW : FW g h' (Ax lo) σ1 t.heap := by rw [eh]; exact hB
  have s1 : h'.1 = if r' = 0 then h.1 + 1 else h.1 := by rw [eh]; split <;> rfl
  have s2 : h'.2.1 = h.2.1 := by rw [eh]; split <;> rfl
  have a0 : h'.2.2 0 0 = h.2.2 0 0 := by rw [eh]; split <;> rfl
  have a20 : h'.2.2 20 0 = h.2.2 20 0 := by rw [eh]; split <;> rfl
  have a30 : h'.2.2 30 0 = h.2.2 30 0 := by rw [eh]; split <;> rfl
  rw [← a0, ← a20, ← a30] at hl
  rw [← s1, ← s2] at hP2
  have hl : lv_has ls 9 [(4, .int (nI i)), (3, .ref (h'.2.2 30 0)), (2, .ref (h'.2.2 20 0)), (1, .ref (h'.2.2 0 0)), (0, .ref b)] := hl
  clear eh
  refine lv_istore (lv' := [(5, .int r'), (4, .int (nI i)), (3, .ref (h'.2.2 30 0)), (2, .ref (h'.2.2 20 0)), (1, .ref (h'.2.2 0 0)), (0, .ref b)]) hx hb dL_law_151 hl (by decide) rfl (fun ls hl => ?_)
  refine lv_aload_n hx hb dL_law_153 rfl (lv_at hl 3 rfl) ?_
  refine lv_aload_n hx hb dL_law_154 rfl (lv_at hl 5 rfl) ?_
  refine lv_iload hx hb dL_law_155 (lv_at hl 1 rfl) ?_
  refine lv_iconst (v := 1) hx hb dL_law_157 (by decide) ?_
  refine lv_iadd hx hb dL_law_158 ?_
  refine rdS C0 hX hbl hbA hS hi hL 1 (by decide) dL_law_159 ?_
  refine inI (runV C0 hlo hK hZ hW hS (kX5_addSpring l lo g h' _ (xs (i + 1)) _ _ hP2) wCO_X5_addSpring wML_L_82 wIM_X5_addSpring wSE_X5_X5_addSpring wIN_X5 hdX5_addSpring ⟨(Nat.le_of_ble_eq_true rfl), (Nat.le_of_ble_eq_true rfl)⟩ (recvK hK hW (al20 h' 20 (by decide)) (ct20 0) rfl) rfl hl.1 rfl (Nat.le_of_ble_eq_true rfl) dL_law_160 ⟨(by omega), (by omega)⟩) hS (fun H locs hW hS => ?_)
  refine lv_istore (lv' := [(6, .int bv), (5, .int r'), (4, .int (nI i)), (3, .ref (h'.2.2 30 0)), (2, .ref (h'.2.2 20 0)), (1, .ref (h'.2.2 0 0)), (0, .ref b)]) hx hb dL_law_163 hl (by decide) rfl (fun ls hl => ?_)
  refine lv_aload_n hx hb dL_law_165 rfl (lv_at hl 4 rfl) ?_
  refine inI (runV C0 hlo hK hZ hW hS (kX5_thrown l lo g h' _  _ _ hP3) wCO_X5_thrown wML_L_83 wIM_X5_thrown wSE_X5_X5_thrown wIN_X5 hdX5_thrown ⟨(Nat.le_of_ble_eq_true rfl), (Nat.le_of_ble_eq_true rfl)⟩ (recvK hK hW (al20 h' 20 (by decide)) (ct20 0) rfl) rfl hl.1 rfl (Nat.le_of_ble_eq_true rfl) dL_law_166 ⟨(by omega), (by omega)⟩) hS (fun H locs hW hS => ?_)
  refine lv_iload hx hb dL_law_169 (lv_at hl 1 rfl) ?_
  refine lv_icmp_eq (tgt := 176) hx hb dL_law_171 (by decide) (fun _ => ?_) (fun q => absurd rfl q)
  refine lv_iload hx hb dL_law_176 (lv_at hl 1 rfl) ?_
  refine lv_if_ne (tgt := 193) hx hb dL_law_178 (by decide) (fun ck => ?_) (fun ck => ?_)
  · skip
    refine lv_goto (tgt := 1487) hx hb dL_law_193 (by decide) ?_
    refine W.widen (k := cells + 300) (n := slots + 1100) (by omega) (by omega) ?_
    exact kk _ s1 s2 a0 a20 a30 _ _ _ hW hS (lv_sub hl [2, 3, 4, 5, 6] rfl)
  · have hV1 := hV ck
    refine lv_aload_n hx hb dL_law_181 rfl (lv_at hl 3 rfl) ?_
    refine lv_iconst (v := 0) hx hb dL_law_182 (by decide) ?_
    refine lld (h := h') C0 hK hW (show vp_in 0 1 by unfold vp_in; decide) dL_law_183 ?_
    have hV2 : σ2.2 30 0 (0 : Int32).toNatClampNeg = _ := hV1
    rw [hV2]
    refine lv_iload hx hb dL_law_184 (lv_at hl 0 rfl) ?_
    refine lv_i2l hx hb dL_law_186 rfl ?_
    refine W.lcmp hx hb dL_law_187 ?_
    rw [lg_cmp_self]
    refine lv_if_eq (tgt := 193) hx hb dL_law_188 (by decide) (fun _ => ?_) (fun q => absurd rfl q)
    refine lv_goto (tgt := 1487) hx hb dL_law_193 (by decide) ?_
    refine W.widen (k := cells + 300) (n := slots + 1100) (by omega) (by omega) ?_
    exact kk _ s1 s2 a0 a20 a30 _ _ _ hW hS (lv_sub hl [2, 3, 4, 5, 6] rfl)
set_option maxHeartbeats 4000000 in
theorem sL_wind {p : Program} {l : Launch} {e : Env} {s : State} {m : MethodId} {args : Array Value} {below : List Frame} {meth : Method} {c : Code} {H : Heap} {locs : List Loc} {cells slots : Nat} {Q : State → Prop} {lo b L i : Nat} {xs : Nat → Int32} {g : Gx} {h : Sh} {σ : Sg} {ls : Array Slot} (C0 : CallFix p m c cL_law 9 s args wB RL) (hnt : l.stackTraces = false) (hlo : lo ≤ s.heap.size) (hK : KW g s) (hZ : ZW lo s s.heap) (hX : va_X b L xs s s.heap) (hbl : b < s.heap.size) (hbA : ¬ Ax lo b) (hi : i + 6 ≤ L) (hL : L ≤ 3072) (hcl : cells + 300 ≤ room_1.cells) (hsl : slots + 1100 ≤ room_1.slots) (hW : FW g h (Ax lo) σ H) (hS : va_S (Ax lo) s.heap H locs) (hl : lv_has ls 9 [(4, .int (nI i)), (3, .ref (h.2.2 30 0)), (2, .ref (h.2.2 20 0)), (1, .ref (h.2.2 0 0)), (0, .ref b)])
    {k bv : Int32} {σ1 σ2 : Sg} (hP1 : FL_wind h.1 h.2.1 σ (xs (i + 1)) (xs (i + 2)) = some (k, σ1)) (hP2 : FX5_wind h.1 h.2.1 σ1 (xs (i + 1)) (xs (i + 2)) = some (bv, σ2)) (hT : σ2.1 20 0 0 = k) (hV : k = 0 → σ2.2 30 0 0 = bv.toInt64) (kk : ∀ (H1 : Heap) (locs1 : List Loc) (ls1 : Array Slot), FW g h (Ax lo) σ2 H1 → va_S (Ax lo) s.heap H1 locs1 → lv_has ls1 9 [(4, .int (nI i)), (3, .ref (h.2.2 30 0)), (2, .ref (h.2.2 20 0)), (1, .ref (h.2.2 0 0)), (0, .ref b)] → W p l e room_1 s m args below meth c H1 locs1 (cells + 300) (slots + 1100) Q (F0 m 1487 ls1 [])) : W p l e room_1 s m args below meth c H locs cells slots Q (F0 m 196 ls []) := by
  have hx := C0.1
  have hb := C0.2.1
  have hP3 : FX5_thrown h.1 h.2.1 σ2 = some (k, σ2) := by rw [← hT]; rfl
  refine lv_aload_n hx hb dL_law_196 rfl (lv_at hl 3 rfl) ?_
  refine lv_aload_n hx hb dL_law_197 rfl (lv_at hl 4 rfl) ?_
  refine lv_iload hx hb dL_law_198 (lv_at hl 0 rfl) ?_
  refine lv_iconst (v := 1) hx hb dL_law_200 (by decide) ?_
  refine lv_iadd hx hb dL_law_201 ?_
  refine rdS C0 hX hbl hbA hS hi hL 1 (by decide) dL_law_202 ?_
  refine lv_aload_n hx hb dL_law_203 rfl (lv_at hl 4 rfl) ?_
  refine lv_iload hx hb dL_law_204 (lv_at hl 0 rfl) ?_
  refine lv_iconst (v := 2) hx hb dL_law_206 (by decide) ?_
  refine lv_iadd hx hb dL_law_207 ?_
  refine rdS C0 hX hbl hbA hS hi hL 2 (by decide) dL_law_208 ?_
  refine lv_aload_n hx hb dL_law_209 rfl (lv_at hl 1 rfl) ?_
  refine inI (runSW C0 hlo hK hZ hW hS (kL_wind l hnt lo g h σ (xs (i + 1)) (xs (i + 2)) _ _ hP1) wCW_L_wind wML_L_87 wST_L_wind wIN_L hdsL_wind ⟨(Nat.le_of_ble_eq_true rfl), (Nat.le_of_ble_eq_true rfl)⟩ rfl hl.1 rfl (Nat.le_of_ble_eq_true rfl) dL_law_210 ⟨(by omega), (by omega)⟩) hS (fun H locs hW hS => ?_)
  have hl : lv_has ls 9 [(4, .int (nI i)), (3, .ref (h.2.2 30 0)), (2, .ref (h.2.2 20 0)), (1, .ref (h.2.2 0 0)), (0, .ref b)] := hl
  refine lv_istore (lv' := [(5, .int k), (4, .int (nI i)), (3, .ref (h.2.2 30 0)), (2, .ref (h.2.2 20 0)), (1, .ref (h.2.2 0 0)), (0, .ref b)]) hx hb dL_law_213 hl (by decide) rfl (fun ls hl => ?_)
  refine lv_aload_n hx hb dL_law_215 rfl (lv_at hl 3 rfl) ?_
  refine lv_aload_n hx hb dL_law_216 rfl (lv_at hl 5 rfl) ?_
  refine lv_iload hx hb dL_law_217 (lv_at hl 1 rfl) ?_
  refine lv_iconst (v := 1) hx hb dL_law_219 (by decide) ?_
  refine lv_iadd hx hb dL_law_220 ?_
  refine rdS C0 hX hbl hbA hS hi hL 1 (by decide) dL_law_221 ?_
  refine lv_aload_n hx hb dL_law_222 rfl (lv_at hl 5 rfl) ?_
  refine lv_iload hx hb dL_law_223 (lv_at hl 1 rfl) ?_
  refine lv_iconst (v := 2) hx hb dL_law_225 (by decide) ?_
  refine lv_iadd hx hb dL_law_226 ?_
  refine rdS C0 hX hbl hbA hS hi hL 2 (by decide) dL_law_227 ?_
  refine inI (runV C0 hlo hK hZ hW hS (kX5_wind l lo g h _ (xs (i + 1)) (xs (i + 2)) _ _ hP2) wCO_X5_wind wML_L_90 wIM_X5_wind wSE_X5_X5_wind wIN_X5 hdX5_wind ⟨(Nat.le_of_ble_eq_true rfl), (Nat.le_of_ble_eq_true rfl)⟩ (recvK hK hW (al20 h 20 (by decide)) (ct20 0) rfl) rfl hl.1 rfl (Nat.le_of_ble_eq_true rfl) dL_law_228 ⟨(by omega), (by omega)⟩) hS (fun H locs hW hS => ?_)
  refine lv_istore (lv' := [(6, .int bv), (5, .int k), (4, .int (nI i)), (3, .ref (h.2.2 30 0)), (2, .ref (h.2.2 20 0)), (1, .ref (h.2.2 0 0)), (0, .ref b)]) hx hb dL_law_231 hl (by decide) rfl (fun ls hl => ?_)
  refine lv_aload_n hx hb dL_law_233 rfl (lv_at hl 4 rfl) ?_
  refine inI (runV C0 hlo hK hZ hW hS (kX5_thrown l lo g h _  _ _ hP3) wCO_X5_thrown wML_L_83 wIM_X5_thrown wSE_X5_X5_thrown wIN_X5 hdX5_thrown ⟨(Nat.le_of_ble_eq_true rfl), (Nat.le_of_ble_eq_true rfl)⟩ (recvK hK hW (al20 h 20 (by decide)) (ct20 0) rfl) rfl hl.1 rfl (Nat.le_of_ble_eq_true rfl) dL_law_234 ⟨(by omega), (by omega)⟩) hS (fun H locs hW hS => ?_)
  refine lv_iload hx hb dL_law_237 (lv_at hl 1 rfl) ?_
  refine lv_icmp_eq (tgt := 244) hx hb dL_law_239 (by decide) (fun _ => ?_) (fun q => absurd rfl q)
  refine lv_iload hx hb dL_law_244 (lv_at hl 1 rfl) ?_
  refine lv_if_ne (tgt := 261) hx hb dL_law_246 (by decide) (fun ck => ?_) (fun ck => ?_)
  · skip
    refine lv_goto (tgt := 1487) hx hb dL_law_261 (by decide) ?_
    refine W.widen (k := cells + 300) (n := slots + 1100) (by omega) (by omega) ?_
    exact kk _ _ _ hW hS (lv_sub hl [2, 3, 4, 5, 6] rfl)
  · have hV1 := hV ck
    refine lv_aload_n hx hb dL_law_249 rfl (lv_at hl 3 rfl) ?_
    refine lv_iconst (v := 0) hx hb dL_law_250 (by decide) ?_
    refine lld (h := h) C0 hK hW (show vp_in 0 1 by unfold vp_in; decide) dL_law_251 ?_
    have hV2 : σ2.2 30 0 (0 : Int32).toNatClampNeg = _ := hV1
    rw [hV2]
    refine lv_iload hx hb dL_law_252 (lv_at hl 0 rfl) ?_
    refine lv_i2l hx hb dL_law_254 rfl ?_
    refine W.lcmp hx hb dL_law_255 ?_
    rw [lg_cmp_self]
    refine lv_if_eq (tgt := 261) hx hb dL_law_256 (by decide) (fun _ => ?_) (fun q => absurd rfl q)
    refine lv_goto (tgt := 1487) hx hb dL_law_261 (by decide) ?_
    refine W.widen (k := cells + 300) (n := slots + 1100) (by omega) (by omega) ?_
    exact kk _ _ _ hW hS (lv_sub hl [2, 3, 4, 5, 6] rfl)
set_option maxHeartbeats 4000000 in
theorem sL_brake {p : Program} {l : Launch} {e : Env} {s : State} {m : MethodId} {args : Array Value} {below : List Frame} {meth : Method} {c : Code} {H : Heap} {locs : List Loc} {cells slots : Nat} {Q : State → Prop} {lo b L i : Nat} {xs : Nat → Int32} {g : Gx} {h : Sh} {σ : Sg} {ls : Array Slot} (C0 : CallFix p m c cL_law 9 s args wB RL) (hnt : l.stackTraces = false) (hlo : lo ≤ s.heap.size) (hK : KW g s) (hZ : ZW lo s s.heap) (hX : va_X b L xs s s.heap) (hbl : b < s.heap.size) (hbA : ¬ Ax lo b) (hi : i + 6 ≤ L) (hL : L ≤ 3072) (hcl : cells + 300 ≤ room_1.cells) (hsl : slots + 1100 ≤ room_1.slots) (hW : FW g h (Ax lo) σ H) (hS : va_S (Ax lo) s.heap H locs) (hl : lv_has ls 9 [(4, .int (nI i)), (3, .ref (h.2.2 30 0)), (2, .ref (h.2.2 20 0)), (1, .ref (h.2.2 0 0)), (0, .ref b)])
    {k bv : Int32} {σ1 σ2 : Sg} (hP1 : FL_brake h.1 h.2.1 σ (xs (i + 1)) (if xs (i + 2) = 0 then 0 else 1) = some (k, σ1)) (hP2 : FX5_brake h.1 h.2.1 σ1 (xs (i + 1)) (if xs (i + 2) = 0 then 0 else 1) = some (bv, σ2)) (hT : σ2.1 20 0 0 = k) (hV : k = 0 → σ2.2 30 0 0 = (if bv = 0 then 0 else 1)) (kk : ∀ (H1 : Heap) (locs1 : List Loc) (ls1 : Array Slot), FW g h (Ax lo) σ2 H1 → va_S (Ax lo) s.heap H1 locs1 → lv_has ls1 9 [(4, .int (nI i)), (3, .ref (h.2.2 30 0)), (2, .ref (h.2.2 20 0)), (1, .ref (h.2.2 0 0)), (0, .ref b)] → W p l e room_1 s m args below meth c H1 locs1 (cells + 300) (slots + 1100) Q (F0 m 1487 ls1 [])) : W p l e room_1 s m args below meth c H locs cells slots Q (F0 m 264 ls []) := by
  have hx := C0.1
  have hb := C0.2.1
  have hP3 : FX5_thrown h.1 h.2.1 σ2 = some (k, σ2) := by rw [← hT]; rfl
  refine lv_aload_n hx hb dL_law_264 rfl (lv_at hl 3 rfl) ?_
  refine lv_aload_n hx hb dL_law_265 rfl (lv_at hl 4 rfl) ?_
  refine lv_iload hx hb dL_law_266 (lv_at hl 0 rfl) ?_
  refine lv_iconst (v := 1) hx hb dL_law_268 (by decide) ?_
  refine lv_iadd hx hb dL_law_269 ?_
  refine rdS C0 hX hbl hbA hS hi hL 1 (by decide) dL_law_270 ?_
  refine lv_aload_n hx hb dL_law_271 rfl (lv_at hl 4 rfl) ?_
  refine lv_iload hx hb dL_law_272 (lv_at hl 0 rfl) ?_
  refine lv_iconst (v := 2) hx hb dL_law_274 (by decide) ?_
  refine lv_iadd hx hb dL_law_275 ?_
  refine rdS C0 hX hbl hbA hS hi hL 2 (by decide) dL_law_276 ?_
  refine lv_if_eq (tgt := 284) hx hb dL_law_277 (by decide) (fun cb => ?_) (fun cb => ?_)
  · rw [if_pos cb] at hP1 hP2
    refine lv_iconst (v := 0) hx hb dL_law_284 (by decide) ?_
    refine lv_aload_n hx hb dL_law_285 rfl (lv_at hl 1 rfl) ?_
    refine inI (runSW C0 hlo hK hZ hW hS (kL_brake l hnt lo g h σ (xs (i + 1)) 0 _ _ hP1) wCW_L_brake wML_L_91 wST_L_brake wIN_L hdsL_brake ⟨(Nat.le_of_ble_eq_true rfl), (Nat.le_of_ble_eq_true rfl)⟩ rfl hl.1 rfl (Nat.le_of_ble_eq_true rfl) dL_law_286 ⟨(by omega), (by omega)⟩) hS (fun H locs hW hS => ?_)
    have hl : lv_has ls 9 [(4, .int (nI i)), (3, .ref (h.2.2 30 0)), (2, .ref (h.2.2 20 0)), (1, .ref (h.2.2 0 0)), (0, .ref b)] := hl
    refine lv_istore (lv' := [(5, .int k), (4, .int (nI i)), (3, .ref (h.2.2 30 0)), (2, .ref (h.2.2 20 0)), (1, .ref (h.2.2 0 0)), (0, .ref b)]) hx hb dL_law_289 hl (by decide) rfl (fun ls hl => ?_)
    refine lv_aload_n hx hb dL_law_291 rfl (lv_at hl 3 rfl) ?_
    refine lv_aload_n hx hb dL_law_292 rfl (lv_at hl 5 rfl) ?_
    refine lv_iload hx hb dL_law_293 (lv_at hl 1 rfl) ?_
    refine lv_iconst (v := 1) hx hb dL_law_295 (by decide) ?_
    refine lv_iadd hx hb dL_law_296 ?_
    refine rdS C0 hX hbl hbA hS hi hL 1 (by decide) dL_law_297 ?_
    refine lv_aload_n hx hb dL_law_298 rfl (lv_at hl 5 rfl) ?_
    refine lv_iload hx hb dL_law_299 (lv_at hl 1 rfl) ?_
    refine lv_iconst (v := 2) hx hb dL_law_301 (by decide) ?_
    refine lv_iadd hx hb dL_law_302 ?_
    refine rdS C0 hX hbl hbA hS hi hL 2 (by decide) dL_law_303 ?_
    refine lv_if_eq (tgt := 311) hx hb dL_law_304 (by decide) (fun _ => ?_) (fun q => absurd cb q)
    refine lv_iconst (v := 0) hx hb dL_law_311 (by decide) ?_
    refine inI (runV C0 hlo hK hZ hW hS (kX5_brake l lo g h _ (xs (i + 1)) 0 _ _ hP2) wCO_X5_brake wML_L_94 wIM_X5_brake wSE_X5_X5_brake wIN_X5 hdX5_brake ⟨(Nat.le_of_ble_eq_true rfl), (Nat.le_of_ble_eq_true rfl)⟩ (recvK hK hW (al20 h 20 (by decide)) (ct20 0) rfl) rfl hl.1 rfl (Nat.le_of_ble_eq_true rfl) dL_law_312 ⟨(by omega), (by omega)⟩) hS (fun H locs hW hS => ?_)
    refine lv_istore (lv' := [(6, .int bv), (5, .int k), (4, .int (nI i)), (3, .ref (h.2.2 30 0)), (2, .ref (h.2.2 20 0)), (1, .ref (h.2.2 0 0)), (0, .ref b)]) hx hb dL_law_315 hl (by decide) rfl (fun ls hl => ?_)
    refine lv_aload_n hx hb dL_law_317 rfl (lv_at hl 4 rfl) ?_
    refine inI (runV C0 hlo hK hZ hW hS (kX5_thrown l lo g h _  _ _ hP3) wCO_X5_thrown wML_L_83 wIM_X5_thrown wSE_X5_X5_thrown wIN_X5 hdX5_thrown ⟨(Nat.le_of_ble_eq_true rfl), (Nat.le_of_ble_eq_true rfl)⟩ (recvK hK hW (al20 h 20 (by decide)) (ct20 0) rfl) rfl hl.1 rfl (Nat.le_of_ble_eq_true rfl) dL_law_318 ⟨(by omega), (by omega)⟩) hS (fun H locs hW hS => ?_)
    refine lv_iload hx hb dL_law_321 (lv_at hl 1 rfl) ?_
    refine lv_icmp_eq (tgt := 328) hx hb dL_law_323 (by decide) (fun _ => ?_) (fun q => absurd rfl q)
    refine lv_iload hx hb dL_law_328 (lv_at hl 1 rfl) ?_
    refine lv_if_ne (tgt := 352) hx hb dL_law_330 (by decide) (fun ck => ?_) (fun ck => ?_)
    · skip
      refine lv_goto (tgt := 1487) hx hb dL_law_352 (by decide) ?_
      refine W.widen (k := cells + 300) (n := slots + 1100) (by omega) (by omega) ?_
      exact kk _ _ _ hW hS (lv_sub hl [2, 3, 4, 5, 6] rfl)
    · have hV1 := hV ck
      refine lv_aload_n hx hb dL_law_333 rfl (lv_at hl 3 rfl) ?_
      refine lv_iconst (v := 0) hx hb dL_law_334 (by decide) ?_
      refine lld (h := h) C0 hK hW (show vp_in 0 1 by unfold vp_in; decide) dL_law_335 ?_
      have hV2 : σ2.2 30 0 (0 : Int32).toNatClampNeg = _ := hV1
      rw [hV2]
      refine lv_iload hx hb dL_law_336 (lv_at hl 0 rfl) ?_
      refine lv_if_eq (tgt := 345) hx hb dL_law_338 (by decide) (fun cv => ?_) (fun cv => ?_)
      · rw [if_pos cv]
        refine lv_lconst (v := 0) hx hb dL_law_345 (by decide) ?_
        refine W.lcmp hx hb dL_law_346 ?_
        rw [lg_cmp_self]
        refine lv_if_eq (tgt := 352) hx hb dL_law_347 (by decide) (fun _ => ?_) (fun q => absurd rfl q)
        refine lv_goto (tgt := 1487) hx hb dL_law_352 (by decide) ?_
        refine W.widen (k := cells + 300) (n := slots + 1100) (by omega) (by omega) ?_
        exact kk _ _ _ hW hS (lv_sub hl [2, 3, 4, 5, 6] rfl)
      · rw [if_neg cv]
        refine lv_lconst (v := 1) hx hb dL_law_341 (by decide) ?_
        refine lv_goto (tgt := 346) hx hb dL_law_342 (by decide) ?_
        refine W.lcmp hx hb dL_law_346 ?_
        rw [lg_cmp_self]
        refine lv_if_eq (tgt := 352) hx hb dL_law_347 (by decide) (fun _ => ?_) (fun q => absurd rfl q)
        refine lv_goto (tgt := 1487) hx hb dL_law_352 (by decide) ?_
        refine W.widen (k := cells + 300) (n := slots + 1100) (by omega) (by omega) ?_
        exact kk _ _ _ hW hS (lv_sub hl [2, 3, 4, 5, 6] rfl)
  · rw [if_neg cb] at hP1 hP2
    refine lv_iconst (v := 1) hx hb dL_law_280 (by decide) ?_
    refine lv_goto (tgt := 285) hx hb dL_law_281 (by decide) ?_
    refine lv_aload_n hx hb dL_law_285 rfl (lv_at hl 1 rfl) ?_
    refine inI (runSW C0 hlo hK hZ hW hS (kL_brake l hnt lo g h σ (xs (i + 1)) 1 _ _ hP1) wCW_L_brake wML_L_91 wST_L_brake wIN_L hdsL_brake ⟨(Nat.le_of_ble_eq_true rfl), (Nat.le_of_ble_eq_true rfl)⟩ rfl hl.1 rfl (Nat.le_of_ble_eq_true rfl) dL_law_286 ⟨(by omega), (by omega)⟩) hS (fun H locs hW hS => ?_)
    have hl : lv_has ls 9 [(4, .int (nI i)), (3, .ref (h.2.2 30 0)), (2, .ref (h.2.2 20 0)), (1, .ref (h.2.2 0 0)), (0, .ref b)] := hl
    refine lv_istore (lv' := [(5, .int k), (4, .int (nI i)), (3, .ref (h.2.2 30 0)), (2, .ref (h.2.2 20 0)), (1, .ref (h.2.2 0 0)), (0, .ref b)]) hx hb dL_law_289 hl (by decide) rfl (fun ls hl => ?_)
    refine lv_aload_n hx hb dL_law_291 rfl (lv_at hl 3 rfl) ?_
    refine lv_aload_n hx hb dL_law_292 rfl (lv_at hl 5 rfl) ?_
    refine lv_iload hx hb dL_law_293 (lv_at hl 1 rfl) ?_
    refine lv_iconst (v := 1) hx hb dL_law_295 (by decide) ?_
    refine lv_iadd hx hb dL_law_296 ?_
    refine rdS C0 hX hbl hbA hS hi hL 1 (by decide) dL_law_297 ?_
    refine lv_aload_n hx hb dL_law_298 rfl (lv_at hl 5 rfl) ?_
    refine lv_iload hx hb dL_law_299 (lv_at hl 1 rfl) ?_
    refine lv_iconst (v := 2) hx hb dL_law_301 (by decide) ?_
    refine lv_iadd hx hb dL_law_302 ?_
    refine rdS C0 hX hbl hbA hS hi hL 2 (by decide) dL_law_303 ?_
    refine lv_if_eq (tgt := 311) hx hb dL_law_304 (by decide) (fun q => absurd q cb) (fun _ => ?_)
    refine lv_iconst (v := 1) hx hb dL_law_307 (by decide) ?_
    refine lv_goto (tgt := 312) hx hb dL_law_308 (by decide) ?_
    refine inI (runV C0 hlo hK hZ hW hS (kX5_brake l lo g h _ (xs (i + 1)) 1 _ _ hP2) wCO_X5_brake wML_L_94 wIM_X5_brake wSE_X5_X5_brake wIN_X5 hdX5_brake ⟨(Nat.le_of_ble_eq_true rfl), (Nat.le_of_ble_eq_true rfl)⟩ (recvK hK hW (al20 h 20 (by decide)) (ct20 0) rfl) rfl hl.1 rfl (Nat.le_of_ble_eq_true rfl) dL_law_312 ⟨(by omega), (by omega)⟩) hS (fun H locs hW hS => ?_)
    refine lv_istore (lv' := [(6, .int bv), (5, .int k), (4, .int (nI i)), (3, .ref (h.2.2 30 0)), (2, .ref (h.2.2 20 0)), (1, .ref (h.2.2 0 0)), (0, .ref b)]) hx hb dL_law_315 hl (by decide) rfl (fun ls hl => ?_)
    refine lv_aload_n hx hb dL_law_317 rfl (lv_at hl 4 rfl) ?_
    refine inI (runV C0 hlo hK hZ hW hS (kX5_thrown l lo g h _  _ _ hP3) wCO_X5_thrown wML_L_83 wIM_X5_thrown wSE_X5_X5_thrown wIN_X5 hdX5_thrown ⟨(Nat.le_of_ble_eq_true rfl), (Nat.le_of_ble_eq_true rfl)⟩ (recvK hK hW (al20 h 20 (by decide)) (ct20 0) rfl) rfl hl.1 rfl (Nat.le_of_ble_eq_true rfl) dL_law_318 ⟨(by omega), (by omega)⟩) hS (fun H locs hW hS => ?_)
    refine lv_iload hx hb dL_law_321 (lv_at hl 1 rfl) ?_
    refine lv_icmp_eq (tgt := 328) hx hb dL_law_323 (by decide) (fun _ => ?_) (fun q => absurd rfl q)
    refine lv_iload hx hb dL_law_328 (lv_at hl 1 rfl) ?_
    refine lv_if_ne (tgt := 352) hx hb dL_law_330 (by decide) (fun ck => ?_) (fun ck => ?_)
    · skip
      refine lv_goto (tgt := 1487) hx hb dL_law_352 (by decide) ?_
      refine W.widen (k := cells + 300) (n := slots + 1100) (by omega) (by omega) ?_
      exact kk _ _ _ hW hS (lv_sub hl [2, 3, 4, 5, 6] rfl)
    · have hV1 := hV ck
      refine lv_aload_n hx hb dL_law_333 rfl (lv_at hl 3 rfl) ?_
      refine lv_iconst (v := 0) hx hb dL_law_334 (by decide) ?_
      refine lld (h := h) C0 hK hW (show vp_in 0 1 by unfold vp_in; decide) dL_law_335 ?_
      have hV2 : σ2.2 30 0 (0 : Int32).toNatClampNeg = _ := hV1
      rw [hV2]
      refine lv_iload hx hb dL_law_336 (lv_at hl 0 rfl) ?_
      refine lv_if_eq (tgt := 345) hx hb dL_law_338 (by decide) (fun cv => ?_) (fun cv => ?_)
      · rw [if_pos cv]
        refine lv_lconst (v := 0) hx hb dL_law_345 (by decide) ?_
        refine W.lcmp hx hb dL_law_346 ?_
        rw [lg_cmp_self]
        refine lv_if_eq (tgt := 352) hx hb dL_law_347 (by decide) (fun _ => ?_) (fun q => absurd rfl q)
        refine lv_goto (tgt := 1487) hx hb dL_law_352 (by decide) ?_
        refine W.widen (k := cells + 300) (n := slots + 1100) (by omega) (by omega) ?_
        exact kk _ _ _ hW hS (lv_sub hl [2, 3, 4, 5, 6] rfl)
      · rw [if_neg cv]
        refine lv_lconst (v := 1) hx hb dL_law_341 (by decide) ?_
        refine lv_goto (tgt := 346) hx hb dL_law_342 (by decide) ?_
        refine W.lcmp hx hb dL_law_346 ?_
        rw [lg_cmp_self]
        refine lv_if_eq (tgt := 352) hx hb dL_law_347 (by decide) (fun _ => ?_) (fun q => absurd rfl q)
        refine lv_goto (tgt := 1487) hx hb dL_law_352 (by decide) ?_
        refine W.widen (k := cells + 300) (n := slots + 1100) (by omega) (by omega) ?_
        exact kk _ _ _ hW hS (lv_sub hl [2, 3, 4, 5, 6] rfl)
set_option maxHeartbeats 4000000 in
theorem sL_couple {p : Program} {l : Launch} {e : Env} {s : State} {m : MethodId} {args : Array Value} {below : List Frame} {meth : Method} {c : Code} {H : Heap} {locs : List Loc} {cells slots : Nat} {Q : State → Prop} {lo b L i : Nat} {xs : Nat → Int32} {g : Gx} {h : Sh} {σ : Sg} {ls : Array Slot} (C0 : CallFix p m c cL_law 9 s args wB RL) (hnt : l.stackTraces = false) (hlo : lo ≤ s.heap.size) (hK : KW g s) (hZ : ZW lo s s.heap) (hX : va_X b L xs s s.heap) (hbl : b < s.heap.size) (hbA : ¬ Ax lo b) (hi : i + 6 ≤ L) (hL : L ≤ 3072) (hcl : cells + 300 ≤ room_1.cells) (hsl : slots + 1100 ≤ room_1.slots) (hW : FW g h (Ax lo) σ H) (hS : va_S (Ax lo) s.heap H locs) (hl : lv_has ls 9 [(4, .int (nI i)), (3, .ref (h.2.2 30 0)), (2, .ref (h.2.2 20 0)), (1, .ref (h.2.2 0 0)), (0, .ref b)])
    {k bv : Int32} {σ1 σ2 : Sg} (hP1 : FL_couple h.1 h.2.1 σ (xs (i + 1)) (xs (i + 2)) (if xs (i + 3) = 0 then 0 else 1) = some (k, σ1)) (hP2 : FX5_couple h.1 h.2.1 σ1 (xs (i + 1)) (xs (i + 2)) (if xs (i + 3) = 0 then 0 else 1) = some (bv, σ2)) (hT : σ2.1 20 0 0 = k) (hV : k = 0 → σ2.2 30 0 0 = bv.toInt64) (kk : ∀ (H1 : Heap) (locs1 : List Loc) (ls1 : Array Slot), FW g h (Ax lo) σ2 H1 → va_S (Ax lo) s.heap H1 locs1 → lv_has ls1 9 [(4, .int (nI i)), (3, .ref (h.2.2 30 0)), (2, .ref (h.2.2 20 0)), (1, .ref (h.2.2 0 0)), (0, .ref b)] → W p l e room_1 s m args below meth c H1 locs1 (cells + 300) (slots + 1100) Q (F0 m 1487 ls1 [])) : W p l e room_1 s m args below meth c H locs cells slots Q (F0 m 355 ls []) := by
  have hx := C0.1
  have hb := C0.2.1
  have hP3 : FX5_thrown h.1 h.2.1 σ2 = some (k, σ2) := by rw [← hT]; rfl
  refine lv_aload_n hx hb dL_law_355 rfl (lv_at hl 3 rfl) ?_
  refine lv_aload_n hx hb dL_law_356 rfl (lv_at hl 4 rfl) ?_
  refine lv_iload hx hb dL_law_357 (lv_at hl 0 rfl) ?_
  refine lv_iconst (v := 1) hx hb dL_law_359 (by decide) ?_
  refine lv_iadd hx hb dL_law_360 ?_
  refine rdS C0 hX hbl hbA hS hi hL 1 (by decide) dL_law_361 ?_
  refine lv_aload_n hx hb dL_law_362 rfl (lv_at hl 4 rfl) ?_
  refine lv_iload hx hb dL_law_363 (lv_at hl 0 rfl) ?_
  refine lv_iconst (v := 2) hx hb dL_law_365 (by decide) ?_
  refine lv_iadd hx hb dL_law_366 ?_
  refine rdS C0 hX hbl hbA hS hi hL 2 (by decide) dL_law_367 ?_
  refine lv_aload_n hx hb dL_law_368 rfl (lv_at hl 4 rfl) ?_
  refine lv_iload hx hb dL_law_369 (lv_at hl 0 rfl) ?_
  refine lv_iconst (v := 3) hx hb dL_law_371 (by decide) ?_
  refine lv_iadd hx hb dL_law_372 ?_
  refine rdS C0 hX hbl hbA hS hi hL 3 (by decide) dL_law_373 ?_
  refine lv_if_eq (tgt := 381) hx hb dL_law_374 (by decide) (fun cb => ?_) (fun cb => ?_)
  · rw [if_pos cb] at hP1 hP2
    refine lv_iconst (v := 0) hx hb dL_law_381 (by decide) ?_
    refine lv_aload_n hx hb dL_law_382 rfl (lv_at hl 1 rfl) ?_
    refine inI (runSW C0 hlo hK hZ hW hS (kL_couple l hnt lo g h σ (xs (i + 1)) (xs (i + 2)) 0 _ _ hP1) wCW_L_couple wML_L_95 wST_L_couple wIN_L hdsL_couple ⟨(Nat.le_of_ble_eq_true rfl), (Nat.le_of_ble_eq_true rfl)⟩ rfl hl.1 rfl (Nat.le_of_ble_eq_true rfl) dL_law_383 ⟨(by omega), (by omega)⟩) hS (fun H locs hW hS => ?_)
    have hl : lv_has ls 9 [(4, .int (nI i)), (3, .ref (h.2.2 30 0)), (2, .ref (h.2.2 20 0)), (1, .ref (h.2.2 0 0)), (0, .ref b)] := hl
    refine lv_istore (lv' := [(5, .int k), (4, .int (nI i)), (3, .ref (h.2.2 30 0)), (2, .ref (h.2.2 20 0)), (1, .ref (h.2.2 0 0)), (0, .ref b)]) hx hb dL_law_386 hl (by decide) rfl (fun ls hl => ?_)
    refine lv_aload_n hx hb dL_law_388 rfl (lv_at hl 3 rfl) ?_
    refine lv_aload_n hx hb dL_law_389 rfl (lv_at hl 5 rfl) ?_
    refine lv_iload hx hb dL_law_390 (lv_at hl 1 rfl) ?_
    refine lv_iconst (v := 1) hx hb dL_law_392 (by decide) ?_
    refine lv_iadd hx hb dL_law_393 ?_
    refine rdS C0 hX hbl hbA hS hi hL 1 (by decide) dL_law_394 ?_
    refine lv_aload_n hx hb dL_law_395 rfl (lv_at hl 5 rfl) ?_
    refine lv_iload hx hb dL_law_396 (lv_at hl 1 rfl) ?_
    refine lv_iconst (v := 2) hx hb dL_law_398 (by decide) ?_
    refine lv_iadd hx hb dL_law_399 ?_
    refine rdS C0 hX hbl hbA hS hi hL 2 (by decide) dL_law_400 ?_
    refine lv_aload_n hx hb dL_law_401 rfl (lv_at hl 5 rfl) ?_
    refine lv_iload hx hb dL_law_402 (lv_at hl 1 rfl) ?_
    refine lv_iconst (v := 3) hx hb dL_law_404 (by decide) ?_
    refine lv_iadd hx hb dL_law_405 ?_
    refine rdS C0 hX hbl hbA hS hi hL 3 (by decide) dL_law_406 ?_
    refine lv_if_eq (tgt := 414) hx hb dL_law_407 (by decide) (fun _ => ?_) (fun q => absurd cb q)
    refine lv_iconst (v := 0) hx hb dL_law_414 (by decide) ?_
    refine inI (runV C0 hlo hK hZ hW hS (kX5_couple l lo g h _ (xs (i + 1)) (xs (i + 2)) 0 _ _ hP2) wCO_X5_couple wML_L_98 wIM_X5_couple wSE_X5_X5_couple wIN_X5 hdX5_couple ⟨(Nat.le_of_ble_eq_true rfl), (Nat.le_of_ble_eq_true rfl)⟩ (recvK hK hW (al20 h 20 (by decide)) (ct20 0) rfl) rfl hl.1 rfl (Nat.le_of_ble_eq_true rfl) dL_law_415 ⟨(by omega), (by omega)⟩) hS (fun H locs hW hS => ?_)
    refine lv_istore (lv' := [(6, .int bv), (5, .int k), (4, .int (nI i)), (3, .ref (h.2.2 30 0)), (2, .ref (h.2.2 20 0)), (1, .ref (h.2.2 0 0)), (0, .ref b)]) hx hb dL_law_418 hl (by decide) rfl (fun ls hl => ?_)
    refine lv_aload_n hx hb dL_law_420 rfl (lv_at hl 4 rfl) ?_
    refine inI (runV C0 hlo hK hZ hW hS (kX5_thrown l lo g h _  _ _ hP3) wCO_X5_thrown wML_L_83 wIM_X5_thrown wSE_X5_X5_thrown wIN_X5 hdX5_thrown ⟨(Nat.le_of_ble_eq_true rfl), (Nat.le_of_ble_eq_true rfl)⟩ (recvK hK hW (al20 h 20 (by decide)) (ct20 0) rfl) rfl hl.1 rfl (Nat.le_of_ble_eq_true rfl) dL_law_421 ⟨(by omega), (by omega)⟩) hS (fun H locs hW hS => ?_)
    refine lv_iload hx hb dL_law_424 (lv_at hl 1 rfl) ?_
    refine lv_icmp_eq (tgt := 431) hx hb dL_law_426 (by decide) (fun _ => ?_) (fun q => absurd rfl q)
    refine lv_iload hx hb dL_law_431 (lv_at hl 1 rfl) ?_
    refine lv_if_ne (tgt := 448) hx hb dL_law_433 (by decide) (fun ck => ?_) (fun ck => ?_)
    · skip
      refine lv_goto (tgt := 1487) hx hb dL_law_448 (by decide) ?_
      refine W.widen (k := cells + 300) (n := slots + 1100) (by omega) (by omega) ?_
      exact kk _ _ _ hW hS (lv_sub hl [2, 3, 4, 5, 6] rfl)
    · have hV1 := hV ck
      refine lv_aload_n hx hb dL_law_436 rfl (lv_at hl 3 rfl) ?_
      refine lv_iconst (v := 0) hx hb dL_law_437 (by decide) ?_
      refine lld (h := h) C0 hK hW (show vp_in 0 1 by unfold vp_in; decide) dL_law_438 ?_
      have hV2 : σ2.2 30 0 (0 : Int32).toNatClampNeg = _ := hV1
      rw [hV2]
      refine lv_iload hx hb dL_law_439 (lv_at hl 0 rfl) ?_
      refine lv_i2l hx hb dL_law_441 rfl ?_
      refine W.lcmp hx hb dL_law_442 ?_
      rw [lg_cmp_self]
      refine lv_if_eq (tgt := 448) hx hb dL_law_443 (by decide) (fun _ => ?_) (fun q => absurd rfl q)
      refine lv_goto (tgt := 1487) hx hb dL_law_448 (by decide) ?_
      refine W.widen (k := cells + 300) (n := slots + 1100) (by omega) (by omega) ?_
      exact kk _ _ _ hW hS (lv_sub hl [2, 3, 4, 5, 6] rfl)
  · rw [if_neg cb] at hP1 hP2
    refine lv_iconst (v := 1) hx hb dL_law_377 (by decide) ?_
    refine lv_goto (tgt := 382) hx hb dL_law_378 (by decide) ?_
    refine lv_aload_n hx hb dL_law_382 rfl (lv_at hl 1 rfl) ?_
    refine inI (runSW C0 hlo hK hZ hW hS (kL_couple l hnt lo g h σ (xs (i + 1)) (xs (i + 2)) 1 _ _ hP1) wCW_L_couple wML_L_95 wST_L_couple wIN_L hdsL_couple ⟨(Nat.le_of_ble_eq_true rfl), (Nat.le_of_ble_eq_true rfl)⟩ rfl hl.1 rfl (Nat.le_of_ble_eq_true rfl) dL_law_383 ⟨(by omega), (by omega)⟩) hS (fun H locs hW hS => ?_)
    have hl : lv_has ls 9 [(4, .int (nI i)), (3, .ref (h.2.2 30 0)), (2, .ref (h.2.2 20 0)), (1, .ref (h.2.2 0 0)), (0, .ref b)] := hl
    refine lv_istore (lv' := [(5, .int k), (4, .int (nI i)), (3, .ref (h.2.2 30 0)), (2, .ref (h.2.2 20 0)), (1, .ref (h.2.2 0 0)), (0, .ref b)]) hx hb dL_law_386 hl (by decide) rfl (fun ls hl => ?_)
    refine lv_aload_n hx hb dL_law_388 rfl (lv_at hl 3 rfl) ?_
    refine lv_aload_n hx hb dL_law_389 rfl (lv_at hl 5 rfl) ?_
    refine lv_iload hx hb dL_law_390 (lv_at hl 1 rfl) ?_
    refine lv_iconst (v := 1) hx hb dL_law_392 (by decide) ?_
    refine lv_iadd hx hb dL_law_393 ?_
    refine rdS C0 hX hbl hbA hS hi hL 1 (by decide) dL_law_394 ?_
    refine lv_aload_n hx hb dL_law_395 rfl (lv_at hl 5 rfl) ?_
    refine lv_iload hx hb dL_law_396 (lv_at hl 1 rfl) ?_
    refine lv_iconst (v := 2) hx hb dL_law_398 (by decide) ?_
    refine lv_iadd hx hb dL_law_399 ?_
    refine rdS C0 hX hbl hbA hS hi hL 2 (by decide) dL_law_400 ?_
    refine lv_aload_n hx hb dL_law_401 rfl (lv_at hl 5 rfl) ?_
    refine lv_iload hx hb dL_law_402 (lv_at hl 1 rfl) ?_
    refine lv_iconst (v := 3) hx hb dL_law_404 (by decide) ?_
    refine lv_iadd hx hb dL_law_405 ?_
    refine rdS C0 hX hbl hbA hS hi hL 3 (by decide) dL_law_406 ?_
    refine lv_if_eq (tgt := 414) hx hb dL_law_407 (by decide) (fun q => absurd q cb) (fun _ => ?_)
    refine lv_iconst (v := 1) hx hb dL_law_410 (by decide) ?_
    refine lv_goto (tgt := 415) hx hb dL_law_411 (by decide) ?_
    refine inI (runV C0 hlo hK hZ hW hS (kX5_couple l lo g h _ (xs (i + 1)) (xs (i + 2)) 1 _ _ hP2) wCO_X5_couple wML_L_98 wIM_X5_couple wSE_X5_X5_couple wIN_X5 hdX5_couple ⟨(Nat.le_of_ble_eq_true rfl), (Nat.le_of_ble_eq_true rfl)⟩ (recvK hK hW (al20 h 20 (by decide)) (ct20 0) rfl) rfl hl.1 rfl (Nat.le_of_ble_eq_true rfl) dL_law_415 ⟨(by omega), (by omega)⟩) hS (fun H locs hW hS => ?_)
    refine lv_istore (lv' := [(6, .int bv), (5, .int k), (4, .int (nI i)), (3, .ref (h.2.2 30 0)), (2, .ref (h.2.2 20 0)), (1, .ref (h.2.2 0 0)), (0, .ref b)]) hx hb dL_law_418 hl (by decide) rfl (fun ls hl => ?_)
    refine lv_aload_n hx hb dL_law_420 rfl (lv_at hl 4 rfl) ?_
    refine inI (runV C0 hlo hK hZ hW hS (kX5_thrown l lo g h _  _ _ hP3) wCO_X5_thrown wML_L_83 wIM_X5_thrown wSE_X5_X5_thrown wIN_X5 hdX5_thrown ⟨(Nat.le_of_ble_eq_true rfl), (Nat.le_of_ble_eq_true rfl)⟩ (recvK hK hW (al20 h 20 (by decide)) (ct20 0) rfl) rfl hl.1 rfl (Nat.le_of_ble_eq_true rfl) dL_law_421 ⟨(by omega), (by omega)⟩) hS (fun H locs hW hS => ?_)
    refine lv_iload hx hb dL_law_424 (lv_at hl 1 rfl) ?_
    refine lv_icmp_eq (tgt := 431) hx hb dL_law_426 (by decide) (fun _ => ?_) (fun q => absurd rfl q)
    refine lv_iload hx hb dL_law_431 (lv_at hl 1 rfl) ?_
    refine lv_if_ne (tgt := 448) hx hb dL_law_433 (by decide) (fun ck => ?_) (fun ck => ?_)
    · skip
      refine lv_goto (tgt := 1487) hx hb dL_law_448 (by decide) ?_
      refine W.widen (k := cells + 300) (n := slots + 1100) (by omega) (by omega) ?_
      exact kk _ _ _ hW hS (lv_sub hl [2, 3, 4, 5, 6] rfl)
    · have hV1 := hV ck
      refine lv_aload_n hx hb dL_law_436 rfl (lv_at hl 3 rfl) ?_
      refine lv_iconst (v := 0) hx hb dL_law_437 (by decide) ?_
      refine lld (h := h) C0 hK hW (show vp_in 0 1 by unfold vp_in; decide) dL_law_438 ?_
      have hV2 : σ2.2 30 0 (0 : Int32).toNatClampNeg = _ := hV1
      rw [hV2]
      refine lv_iload hx hb dL_law_439 (lv_at hl 0 rfl) ?_
      refine lv_i2l hx hb dL_law_441 rfl ?_
      refine W.lcmp hx hb dL_law_442 ?_
      rw [lg_cmp_self]
      refine lv_if_eq (tgt := 448) hx hb dL_law_443 (by decide) (fun _ => ?_) (fun q => absurd rfl q)
      refine lv_goto (tgt := 1487) hx hb dL_law_448 (by decide) ?_
      refine W.widen (k := cells + 300) (n := slots + 1100) (by omega) (by omega) ?_
      exact kk _ _ _ hW hS (lv_sub hl [2, 3, 4, 5, 6] rfl)
set_option maxHeartbeats 4000000 in
theorem sL_spring {p : Program} {l : Launch} {e : Env} {s : State} {m : MethodId} {args : Array Value} {below : List Frame} {meth : Method} {c : Code} {H : Heap} {locs : List Loc} {cells slots : Nat} {Q : State → Prop} {lo b L i : Nat} {xs : Nat → Int32} {g : Gx} {h : Sh} {σ : Sg} {ls : Array Slot} (C0 : CallFix p m c cL_law 9 s args wB RL) (hnt : l.stackTraces = false) (hlo : lo ≤ s.heap.size) (hK : KW g s) (hZ : ZW lo s s.heap) (hX : va_X b L xs s s.heap) (hbl : b < s.heap.size) (hbA : ¬ Ax lo b) (hi : i + 6 ≤ L) (hL : L ≤ 3072) (hcl : cells + 300 ≤ room_1.cells) (hsl : slots + 1100 ≤ room_1.slots) (hW : FW g h (Ax lo) σ H) (hS : va_S (Ax lo) s.heap H locs) (hl : lv_has ls 9 [(4, .int (nI i)), (3, .ref (h.2.2 30 0)), (2, .ref (h.2.2 20 0)), (1, .ref (h.2.2 0 0)), (0, .ref b)])
    {k bv : Int32} {σ1 σ2 : Sg} (hP1 : FL_spring h.1 h.2.1 σ (xs (i + 1)) (xs (i + 2)) = some (k, σ1)) (hP2 : FX5_spring h.1 h.2.1 σ1 (xs (i + 1)) (xs (i + 2)) = some (bv, σ2)) (hT : σ2.1 20 0 0 = k) (hV : k = 0 → σ2.2 30 0 0 = bv.toInt64) (kk : ∀ (H1 : Heap) (locs1 : List Loc) (ls1 : Array Slot), FW g h (Ax lo) σ2 H1 → va_S (Ax lo) s.heap H1 locs1 → lv_has ls1 9 [(4, .int (nI i)), (3, .ref (h.2.2 30 0)), (2, .ref (h.2.2 20 0)), (1, .ref (h.2.2 0 0)), (0, .ref b)] → W p l e room_1 s m args below meth c H1 locs1 (cells + 300) (slots + 1100) Q (F0 m 1487 ls1 [])) : W p l e room_1 s m args below meth c H locs cells slots Q (F0 m 451 ls []) := by
  have hx := C0.1
  have hb := C0.2.1
  have hP3 : FX5_thrown h.1 h.2.1 σ2 = some (k, σ2) := by rw [← hT]; rfl
  refine lv_aload_n hx hb dL_law_451 rfl (lv_at hl 3 rfl) ?_
  refine lv_aload_n hx hb dL_law_452 rfl (lv_at hl 4 rfl) ?_
  refine lv_iload hx hb dL_law_453 (lv_at hl 0 rfl) ?_
  refine lv_iconst (v := 1) hx hb dL_law_455 (by decide) ?_
  refine lv_iadd hx hb dL_law_456 ?_
  refine rdS C0 hX hbl hbA hS hi hL 1 (by decide) dL_law_457 ?_
  refine lv_aload_n hx hb dL_law_458 rfl (lv_at hl 4 rfl) ?_
  refine lv_iload hx hb dL_law_459 (lv_at hl 0 rfl) ?_
  refine lv_iconst (v := 2) hx hb dL_law_461 (by decide) ?_
  refine lv_iadd hx hb dL_law_462 ?_
  refine rdS C0 hX hbl hbA hS hi hL 2 (by decide) dL_law_463 ?_
  refine lv_aload_n hx hb dL_law_464 rfl (lv_at hl 1 rfl) ?_
  refine inI (runSW C0 hlo hK hZ hW hS (kL_spring l hnt lo g h σ (xs (i + 1)) (xs (i + 2)) _ _ hP1) wCW_L_spring wML_L_99 wST_L_spring wIN_L hdsL_spring ⟨(Nat.le_of_ble_eq_true rfl), (Nat.le_of_ble_eq_true rfl)⟩ rfl hl.1 rfl (Nat.le_of_ble_eq_true rfl) dL_law_465 ⟨(by omega), (by omega)⟩) hS (fun H locs hW hS => ?_)
  have hl : lv_has ls 9 [(4, .int (nI i)), (3, .ref (h.2.2 30 0)), (2, .ref (h.2.2 20 0)), (1, .ref (h.2.2 0 0)), (0, .ref b)] := hl
  refine lv_istore (lv' := [(5, .int k), (4, .int (nI i)), (3, .ref (h.2.2 30 0)), (2, .ref (h.2.2 20 0)), (1, .ref (h.2.2 0 0)), (0, .ref b)]) hx hb dL_law_468 hl (by decide) rfl (fun ls hl => ?_)
  refine lv_aload_n hx hb dL_law_470 rfl (lv_at hl 3 rfl) ?_
  refine lv_aload_n hx hb dL_law_471 rfl (lv_at hl 5 rfl) ?_
  refine lv_iload hx hb dL_law_472 (lv_at hl 1 rfl) ?_
  refine lv_iconst (v := 1) hx hb dL_law_474 (by decide) ?_
  refine lv_iadd hx hb dL_law_475 ?_
  refine rdS C0 hX hbl hbA hS hi hL 1 (by decide) dL_law_476 ?_
  refine lv_aload_n hx hb dL_law_477 rfl (lv_at hl 5 rfl) ?_
  refine lv_iload hx hb dL_law_478 (lv_at hl 1 rfl) ?_
  refine lv_iconst (v := 2) hx hb dL_law_480 (by decide) ?_
  refine lv_iadd hx hb dL_law_481 ?_
  refine rdS C0 hX hbl hbA hS hi hL 2 (by decide) dL_law_482 ?_
  refine inI (runV C0 hlo hK hZ hW hS (kX5_spring l lo g h _ (xs (i + 1)) (xs (i + 2)) _ _ hP2) wCO_X5_spring wML_L_101 wIM_X5_spring wSE_X5_X5_spring wIN_X5 hdX5_spring ⟨(Nat.le_of_ble_eq_true rfl), (Nat.le_of_ble_eq_true rfl)⟩ (recvK hK hW (al20 h 20 (by decide)) (ct20 0) rfl) rfl hl.1 rfl (Nat.le_of_ble_eq_true rfl) dL_law_483 ⟨(by omega), (by omega)⟩) hS (fun H locs hW hS => ?_)
  refine lv_istore (lv' := [(6, .int bv), (5, .int k), (4, .int (nI i)), (3, .ref (h.2.2 30 0)), (2, .ref (h.2.2 20 0)), (1, .ref (h.2.2 0 0)), (0, .ref b)]) hx hb dL_law_486 hl (by decide) rfl (fun ls hl => ?_)
  refine lv_aload_n hx hb dL_law_488 rfl (lv_at hl 4 rfl) ?_
  refine inI (runV C0 hlo hK hZ hW hS (kX5_thrown l lo g h _  _ _ hP3) wCO_X5_thrown wML_L_83 wIM_X5_thrown wSE_X5_X5_thrown wIN_X5 hdX5_thrown ⟨(Nat.le_of_ble_eq_true rfl), (Nat.le_of_ble_eq_true rfl)⟩ (recvK hK hW (al20 h 20 (by decide)) (ct20 0) rfl) rfl hl.1 rfl (Nat.le_of_ble_eq_true rfl) dL_law_489 ⟨(by omega), (by omega)⟩) hS (fun H locs hW hS => ?_)
  refine lv_iload hx hb dL_law_492 (lv_at hl 1 rfl) ?_
  refine lv_icmp_eq (tgt := 499) hx hb dL_law_494 (by decide) (fun _ => ?_) (fun q => absurd rfl q)
  refine lv_iload hx hb dL_law_499 (lv_at hl 1 rfl) ?_
  refine lv_if_ne (tgt := 516) hx hb dL_law_501 (by decide) (fun ck => ?_) (fun ck => ?_)
  · skip
    refine lv_goto (tgt := 1487) hx hb dL_law_516 (by decide) ?_
    refine W.widen (k := cells + 300) (n := slots + 1100) (by omega) (by omega) ?_
    exact kk _ _ _ hW hS (lv_sub hl [2, 3, 4, 5, 6] rfl)
  · have hV1 := hV ck
    refine lv_aload_n hx hb dL_law_504 rfl (lv_at hl 3 rfl) ?_
    refine lv_iconst (v := 0) hx hb dL_law_505 (by decide) ?_
    refine lld (h := h) C0 hK hW (show vp_in 0 1 by unfold vp_in; decide) dL_law_506 ?_
    have hV2 : σ2.2 30 0 (0 : Int32).toNatClampNeg = _ := hV1
    rw [hV2]
    refine lv_iload hx hb dL_law_507 (lv_at hl 0 rfl) ?_
    refine lv_i2l hx hb dL_law_509 rfl ?_
    refine W.lcmp hx hb dL_law_510 ?_
    rw [lg_cmp_self]
    refine lv_if_eq (tgt := 516) hx hb dL_law_511 (by decide) (fun _ => ?_) (fun q => absurd rfl q)
    refine lv_goto (tgt := 1487) hx hb dL_law_516 (by decide) ?_
    refine W.widen (k := cells + 300) (n := slots + 1100) (by omega) (by omega) ?_
    exact kk _ _ _ hW hS (lv_sub hl [2, 3, 4, 5, 6] rfl)
set_option maxHeartbeats 4000000 in
theorem sL_addBird {p : Program} {l : Launch} {e : Env} {s : State} {m : MethodId} {args : Array Value} {below : List Frame} {meth : Method} {c : Code} {H : Heap} {locs : List Loc} {cells slots : Nat} {Q : State → Prop} {lo b L i : Nat} {xs : Nat → Int32} {g : Gx} {h : Sh} {σ : Sg} {ls : Array Slot} (C0 : CallFix p m c cL_law 9 s args wB RL) (hnt : l.stackTraces = false) (hlo : lo ≤ s.heap.size) (hK : KW g s) (hZ : ZW lo s s.heap) (hX : va_X b L xs s s.heap) (hbl : b < s.heap.size) (hbA : ¬ Ax lo b) (hi : i + 6 ≤ L) (hL : L ≤ 3072) (hcl : cells + 300 ≤ room_1.cells) (hsl : slots + 1100 ≤ room_1.slots) (hW : FW g h (Ax lo) σ H) (hS : va_S (Ax lo) s.heap H locs) (hl : lv_has ls 9 [(4, .int (nI i)), (3, .ref (h.2.2 30 0)), (2, .ref (h.2.2 20 0)), (1, .ref (h.2.2 0 0)), (0, .ref b)])
    {k bv : Int32} {σ1 σ2 : Sg} (hP1 : FL_addBird h.1 h.2.1 σ (xs (i + 1)) (xs (i + 2)) (xs (i + 3)) (xs (i + 4)) (xs (i + 5)) = some (k, σ1)) (hP2 : FX5_addBird h.1 (if k = 0 then h.2.1 + 1 else h.2.1) σ1 (xs (i + 1)) (xs (i + 2)) (xs (i + 3)) (xs (i + 4)) (xs (i + 5)) = some (bv, σ2)) (hT : σ2.1 20 0 0 = k) (hV : k = 0 → σ2.2 30 0 0 = bv.toInt64) (kk : ∀ (h' : Sh), h'.2.1 = (if k = 0 then h.2.1 + 1 else h.2.1) → h'.1 = h.1 → h'.2.2 0 0 = h.2.2 0 0 → h'.2.2 20 0 = h.2.2 20 0 → h'.2.2 30 0 = h.2.2 30 0 → ∀ (H1 : Heap) (locs1 : List Loc) (ls1 : Array Slot), FW g h' (Ax lo) σ2 H1 → va_S (Ax lo) s.heap H1 locs1 → lv_has ls1 9 [(4, .int (nI i)), (3, .ref (h'.2.2 30 0)), (2, .ref (h'.2.2 20 0)), (1, .ref (h'.2.2 0 0)), (0, .ref b)] → W p l e room_1 s m args below meth c H1 locs1 (cells + 300) (slots + 1100) Q (F0 m 1487 ls1 [])) : W p l e room_1 s m args below meth c H locs cells slots Q (F0 m 519 ls []) := by
  have hx := C0.1
  have hb := C0.2.1
  have hP3 : FX5_thrown h.1 h.2.1 σ2 = some (k, σ2) := by rw [← hT]; rfl
  refine lv_aload_n hx hb dL_law_519 rfl (lv_at hl 3 rfl) ?_
  refine lv_aload_n hx hb dL_law_520 rfl (lv_at hl 4 rfl) ?_
  refine lv_iload hx hb dL_law_521 (lv_at hl 0 rfl) ?_
  refine lv_iconst (v := 1) hx hb dL_law_523 (by decide) ?_
  refine lv_iadd hx hb dL_law_524 ?_
  refine rdS C0 hX hbl hbA hS hi hL 1 (by decide) dL_law_525 ?_
  refine lv_aload_n hx hb dL_law_526 rfl (lv_at hl 4 rfl) ?_
  refine lv_iload hx hb dL_law_527 (lv_at hl 0 rfl) ?_
  refine lv_iconst (v := 2) hx hb dL_law_529 (by decide) ?_
  refine lv_iadd hx hb dL_law_530 ?_
  refine rdS C0 hX hbl hbA hS hi hL 2 (by decide) dL_law_531 ?_
  refine lv_aload_n hx hb dL_law_532 rfl (lv_at hl 4 rfl) ?_
  refine lv_iload hx hb dL_law_533 (lv_at hl 0 rfl) ?_
  refine lv_iconst (v := 3) hx hb dL_law_535 (by decide) ?_
  refine lv_iadd hx hb dL_law_536 ?_
  refine rdS C0 hX hbl hbA hS hi hL 3 (by decide) dL_law_537 ?_
  refine lv_aload_n hx hb dL_law_538 rfl (lv_at hl 4 rfl) ?_
  refine lv_iload hx hb dL_law_539 (lv_at hl 0 rfl) ?_
  refine lv_iconst (v := 4) hx hb dL_law_541 (by decide) ?_
  refine lv_iadd hx hb dL_law_542 ?_
  refine rdS C0 hX hbl hbA hS hi hL 4 (by decide) dL_law_543 ?_
  refine lv_aload_n hx hb dL_law_544 rfl (lv_at hl 4 rfl) ?_
  refine lv_iload hx hb dL_law_545 (lv_at hl 0 rfl) ?_
  refine lv_iconst (v := 5) hx hb dL_law_547 (by decide) ?_
  refine lv_iadd hx hb dL_law_548 ?_
  refine rdS C0 hX hbl hbA hS hi hL 5 (by decide) dL_law_549 ?_
  refine lv_aload_n hx hb dL_law_550 rfl (lv_at hl 1 rfl) ?_
  refine va_calli (runSW C0 hlo hK hZ hW hS (kL_addBird l hnt lo g h σ (xs (i + 1)) (xs (i + 2)) (xs (i + 3)) (xs (i + 4)) (xs (i + 5)) _ _ hP1) wCW_L_addBird wML_L_102 wST_L_addBird wIN_L hdsL_addBird ⟨(Nat.le_of_ble_eq_true rfl), (Nat.le_of_ble_eq_true rfl)⟩ rfl hl.1 rfl (Nat.le_of_ble_eq_true rfl) dL_law_551 ⟨(by omega), (by omega)⟩) hS (fun _ _ q => q) (fun _ q => q) (fun r' v t H1 locs1 ht hvm hw hB hz hk hS => ?_)
  subst hw
  subst ht
  obtain ⟨h', eh⟩ : ∃ q : Sh, q = (if r' = 0 then shB h v.1 v.2 else h) := ⟨_, rfl⟩
  have hW : FW g h' (Ax lo) σ1 t.heap := by rw [eh]; exact hB
  have s1 : h'.2.1 = if r' = 0 then h.2.1 + 1 else h.2.1 := by rw [eh]; split <;> rfl
  have s2 : h'.1 = h.1 := by rw [eh]; split <;> rfl
  have a0 : h'.2.2 0 0 = h.2.2 0 0 := by rw [eh]; split <;> rfl
  have a20 : h'.2.2 20 0 = h.2.2 20 0 := by rw [eh]; split <;> rfl
  have a30 : h'.2.2 30 0 = h.2.2 30 0 := by rw [eh]; split <;> rfl
  rw [← a0, ← a20, ← a30] at hl
  rw [← s1, ← s2] at hP2
  have hl : lv_has ls 9 [(4, .int (nI i)), (3, .ref (h'.2.2 30 0)), (2, .ref (h'.2.2 20 0)), (1, .ref (h'.2.2 0 0)), (0, .ref b)] := hl
  clear eh
  refine lv_istore (lv' := [(5, .int r'), (4, .int (nI i)), (3, .ref (h'.2.2 30 0)), (2, .ref (h'.2.2 20 0)), (1, .ref (h'.2.2 0 0)), (0, .ref b)]) hx hb dL_law_554 hl (by decide) rfl (fun ls hl => ?_)
  refine lv_aload_n hx hb dL_law_556 rfl (lv_at hl 3 rfl) ?_
  refine lv_aload_n hx hb dL_law_557 rfl (lv_at hl 5 rfl) ?_
  refine lv_iload hx hb dL_law_558 (lv_at hl 1 rfl) ?_
  refine lv_iconst (v := 1) hx hb dL_law_560 (by decide) ?_
  refine lv_iadd hx hb dL_law_561 ?_
  refine rdS C0 hX hbl hbA hS hi hL 1 (by decide) dL_law_562 ?_
  refine lv_aload_n hx hb dL_law_563 rfl (lv_at hl 5 rfl) ?_
  refine lv_iload hx hb dL_law_564 (lv_at hl 1 rfl) ?_
  refine lv_iconst (v := 2) hx hb dL_law_566 (by decide) ?_
  refine lv_iadd hx hb dL_law_567 ?_
  refine rdS C0 hX hbl hbA hS hi hL 2 (by decide) dL_law_568 ?_
  refine lv_aload_n hx hb dL_law_569 rfl (lv_at hl 5 rfl) ?_
  refine lv_iload hx hb dL_law_570 (lv_at hl 1 rfl) ?_
  refine lv_iconst (v := 3) hx hb dL_law_572 (by decide) ?_
  refine lv_iadd hx hb dL_law_573 ?_
  refine rdS C0 hX hbl hbA hS hi hL 3 (by decide) dL_law_574 ?_
  refine lv_aload_n hx hb dL_law_575 rfl (lv_at hl 5 rfl) ?_
  refine lv_iload hx hb dL_law_576 (lv_at hl 1 rfl) ?_
  refine lv_iconst (v := 4) hx hb dL_law_578 (by decide) ?_
  refine lv_iadd hx hb dL_law_579 ?_
  refine rdS C0 hX hbl hbA hS hi hL 4 (by decide) dL_law_580 ?_
  refine lv_aload_n hx hb dL_law_581 rfl (lv_at hl 5 rfl) ?_
  refine lv_iload hx hb dL_law_582 (lv_at hl 1 rfl) ?_
  refine lv_iconst (v := 5) hx hb dL_law_584 (by decide) ?_
  refine lv_iadd hx hb dL_law_585 ?_
  refine rdS C0 hX hbl hbA hS hi hL 5 (by decide) dL_law_586 ?_
  refine inI (runV C0 hlo hK hZ hW hS (kX5_addBird l lo g h' _ (xs (i + 1)) (xs (i + 2)) (xs (i + 3)) (xs (i + 4)) (xs (i + 5)) _ _ hP2) wCO_X5_addBird wML_L_105 wIM_X5_addBird wSE_X5_X5_addBird wIN_X5 hdX5_addBird ⟨(Nat.le_of_ble_eq_true rfl), (Nat.le_of_ble_eq_true rfl)⟩ (recvK hK hW (al20 h' 20 (by decide)) (ct20 0) rfl) rfl hl.1 rfl (Nat.le_of_ble_eq_true rfl) dL_law_587 ⟨(by omega), (by omega)⟩) hS (fun H locs hW hS => ?_)
  refine lv_istore (lv' := [(6, .int bv), (5, .int r'), (4, .int (nI i)), (3, .ref (h'.2.2 30 0)), (2, .ref (h'.2.2 20 0)), (1, .ref (h'.2.2 0 0)), (0, .ref b)]) hx hb dL_law_590 hl (by decide) rfl (fun ls hl => ?_)
  refine lv_aload_n hx hb dL_law_592 rfl (lv_at hl 4 rfl) ?_
  refine inI (runV C0 hlo hK hZ hW hS (kX5_thrown l lo g h' _  _ _ hP3) wCO_X5_thrown wML_L_83 wIM_X5_thrown wSE_X5_X5_thrown wIN_X5 hdX5_thrown ⟨(Nat.le_of_ble_eq_true rfl), (Nat.le_of_ble_eq_true rfl)⟩ (recvK hK hW (al20 h' 20 (by decide)) (ct20 0) rfl) rfl hl.1 rfl (Nat.le_of_ble_eq_true rfl) dL_law_593 ⟨(by omega), (by omega)⟩) hS (fun H locs hW hS => ?_)
  refine lv_iload hx hb dL_law_596 (lv_at hl 1 rfl) ?_
  refine lv_icmp_eq (tgt := 603) hx hb dL_law_598 (by decide) (fun _ => ?_) (fun q => absurd rfl q)
  refine lv_iload hx hb dL_law_603 (lv_at hl 1 rfl) ?_
  refine lv_if_ne (tgt := 620) hx hb dL_law_605 (by decide) (fun ck => ?_) (fun ck => ?_)
  · skip
    refine lv_goto (tgt := 1487) hx hb dL_law_620 (by decide) ?_
    refine W.widen (k := cells + 300) (n := slots + 1100) (by omega) (by omega) ?_
    exact kk _ s1 s2 a0 a20 a30 _ _ _ hW hS (lv_sub hl [2, 3, 4, 5, 6] rfl)
  · have hV1 := hV ck
    refine lv_aload_n hx hb dL_law_608 rfl (lv_at hl 3 rfl) ?_
    refine lv_iconst (v := 0) hx hb dL_law_609 (by decide) ?_
    refine lld (h := h') C0 hK hW (show vp_in 0 1 by unfold vp_in; decide) dL_law_610 ?_
    have hV2 : σ2.2 30 0 (0 : Int32).toNatClampNeg = _ := hV1
    rw [hV2]
    refine lv_iload hx hb dL_law_611 (lv_at hl 0 rfl) ?_
    refine lv_i2l hx hb dL_law_613 rfl ?_
    refine W.lcmp hx hb dL_law_614 ?_
    rw [lg_cmp_self]
    refine lv_if_eq (tgt := 620) hx hb dL_law_615 (by decide) (fun _ => ?_) (fun q => absurd rfl q)
    refine lv_goto (tgt := 1487) hx hb dL_law_620 (by decide) ?_
    refine W.widen (k := cells + 300) (n := slots + 1100) (by omega) (by omega) ?_
    exact kk _ s1 s2 a0 a20 a30 _ _ _ hW hS (lv_sub hl [2, 3, 4, 5, 6] rfl)
set_option maxHeartbeats 4000000 in
theorem sL_engage {p : Program} {l : Launch} {e : Env} {s : State} {m : MethodId} {args : Array Value} {below : List Frame} {meth : Method} {c : Code} {H : Heap} {locs : List Loc} {cells slots : Nat} {Q : State → Prop} {lo b L i : Nat} {xs : Nat → Int32} {g : Gx} {h : Sh} {σ : Sg} {ls : Array Slot} (C0 : CallFix p m c cL_law 9 s args wB RL) (hnt : l.stackTraces = false) (hlo : lo ≤ s.heap.size) (hK : KW g s) (hZ : ZW lo s s.heap) (hX : va_X b L xs s s.heap) (hbl : b < s.heap.size) (hbA : ¬ Ax lo b) (hi : i + 6 ≤ L) (hL : L ≤ 3072) (hcl : cells + 300 ≤ room_1.cells) (hsl : slots + 1100 ≤ room_1.slots) (hW : FW g h (Ax lo) σ H) (hS : va_S (Ax lo) s.heap H locs) (hl : lv_has ls 9 [(4, .int (nI i)), (3, .ref (h.2.2 30 0)), (2, .ref (h.2.2 20 0)), (1, .ref (h.2.2 0 0)), (0, .ref b)])
    {k bv : Int32} {σ1 σ2 : Sg} (hP1 : FL_engage h.1 h.2.1 σ (xs (i + 1)) (if xs (i + 2) = 0 then 0 else 1) = some (k, σ1)) (hP2 : FX5_engage h.1 h.2.1 σ1 (xs (i + 1)) (if xs (i + 2) = 0 then 0 else 1) = some (bv, σ2)) (hT : σ2.1 20 0 0 = k) (hV : k = 0 → σ2.2 30 0 0 = (if bv = 0 then 0 else 1)) (kk : ∀ (H1 : Heap) (locs1 : List Loc) (ls1 : Array Slot), FW g h (Ax lo) σ2 H1 → va_S (Ax lo) s.heap H1 locs1 → lv_has ls1 9 [(4, .int (nI i)), (3, .ref (h.2.2 30 0)), (2, .ref (h.2.2 20 0)), (1, .ref (h.2.2 0 0)), (0, .ref b)] → W p l e room_1 s m args below meth c H1 locs1 (cells + 300) (slots + 1100) Q (F0 m 1487 ls1 [])) : W p l e room_1 s m args below meth c H locs cells slots Q (F0 m 623 ls []) := by
  have hx := C0.1
  have hb := C0.2.1
  have hP3 : FX5_thrown h.1 h.2.1 σ2 = some (k, σ2) := by rw [← hT]; rfl
  refine lv_aload_n hx hb dL_law_623 rfl (lv_at hl 3 rfl) ?_
  refine lv_aload_n hx hb dL_law_624 rfl (lv_at hl 4 rfl) ?_
  refine lv_iload hx hb dL_law_625 (lv_at hl 0 rfl) ?_
  refine lv_iconst (v := 1) hx hb dL_law_627 (by decide) ?_
  refine lv_iadd hx hb dL_law_628 ?_
  refine rdS C0 hX hbl hbA hS hi hL 1 (by decide) dL_law_629 ?_
  refine lv_aload_n hx hb dL_law_630 rfl (lv_at hl 4 rfl) ?_
  refine lv_iload hx hb dL_law_631 (lv_at hl 0 rfl) ?_
  refine lv_iconst (v := 2) hx hb dL_law_633 (by decide) ?_
  refine lv_iadd hx hb dL_law_634 ?_
  refine rdS C0 hX hbl hbA hS hi hL 2 (by decide) dL_law_635 ?_
  refine lv_if_eq (tgt := 643) hx hb dL_law_636 (by decide) (fun cb => ?_) (fun cb => ?_)
  · rw [if_pos cb] at hP1 hP2
    refine lv_iconst (v := 0) hx hb dL_law_643 (by decide) ?_
    refine lv_aload_n hx hb dL_law_644 rfl (lv_at hl 1 rfl) ?_
    refine inI (runSW C0 hlo hK hZ hW hS (kL_engage l hnt lo g h σ (xs (i + 1)) 0 _ _ hP1) wCW_L_engage wML_L_106 wST_L_engage wIN_L hdsL_engage ⟨(Nat.le_of_ble_eq_true rfl), (Nat.le_of_ble_eq_true rfl)⟩ rfl hl.1 rfl (Nat.le_of_ble_eq_true rfl) dL_law_645 ⟨(by omega), (by omega)⟩) hS (fun H locs hW hS => ?_)
    have hl : lv_has ls 9 [(4, .int (nI i)), (3, .ref (h.2.2 30 0)), (2, .ref (h.2.2 20 0)), (1, .ref (h.2.2 0 0)), (0, .ref b)] := hl
    refine lv_istore (lv' := [(5, .int k), (4, .int (nI i)), (3, .ref (h.2.2 30 0)), (2, .ref (h.2.2 20 0)), (1, .ref (h.2.2 0 0)), (0, .ref b)]) hx hb dL_law_648 hl (by decide) rfl (fun ls hl => ?_)
    refine lv_aload_n hx hb dL_law_650 rfl (lv_at hl 3 rfl) ?_
    refine lv_aload_n hx hb dL_law_651 rfl (lv_at hl 5 rfl) ?_
    refine lv_iload hx hb dL_law_652 (lv_at hl 1 rfl) ?_
    refine lv_iconst (v := 1) hx hb dL_law_654 (by decide) ?_
    refine lv_iadd hx hb dL_law_655 ?_
    refine rdS C0 hX hbl hbA hS hi hL 1 (by decide) dL_law_656 ?_
    refine lv_aload_n hx hb dL_law_657 rfl (lv_at hl 5 rfl) ?_
    refine lv_iload hx hb dL_law_658 (lv_at hl 1 rfl) ?_
    refine lv_iconst (v := 2) hx hb dL_law_660 (by decide) ?_
    refine lv_iadd hx hb dL_law_661 ?_
    refine rdS C0 hX hbl hbA hS hi hL 2 (by decide) dL_law_662 ?_
    refine lv_if_eq (tgt := 670) hx hb dL_law_663 (by decide) (fun _ => ?_) (fun q => absurd cb q)
    refine lv_iconst (v := 0) hx hb dL_law_670 (by decide) ?_
    refine inI (runV C0 hlo hK hZ hW hS (kX5_engage l lo g h _ (xs (i + 1)) 0 _ _ hP2) wCO_X5_engage wML_L_108 wIM_X5_engage wSE_X5_X5_engage wIN_X5 hdX5_engage ⟨(Nat.le_of_ble_eq_true rfl), (Nat.le_of_ble_eq_true rfl)⟩ (recvK hK hW (al20 h 20 (by decide)) (ct20 0) rfl) rfl hl.1 rfl (Nat.le_of_ble_eq_true rfl) dL_law_671 ⟨(by omega), (by omega)⟩) hS (fun H locs hW hS => ?_)
    refine lv_istore (lv' := [(6, .int bv), (5, .int k), (4, .int (nI i)), (3, .ref (h.2.2 30 0)), (2, .ref (h.2.2 20 0)), (1, .ref (h.2.2 0 0)), (0, .ref b)]) hx hb dL_law_674 hl (by decide) rfl (fun ls hl => ?_)
    refine lv_aload_n hx hb dL_law_676 rfl (lv_at hl 4 rfl) ?_
    refine inI (runV C0 hlo hK hZ hW hS (kX5_thrown l lo g h _  _ _ hP3) wCO_X5_thrown wML_L_83 wIM_X5_thrown wSE_X5_X5_thrown wIN_X5 hdX5_thrown ⟨(Nat.le_of_ble_eq_true rfl), (Nat.le_of_ble_eq_true rfl)⟩ (recvK hK hW (al20 h 20 (by decide)) (ct20 0) rfl) rfl hl.1 rfl (Nat.le_of_ble_eq_true rfl) dL_law_677 ⟨(by omega), (by omega)⟩) hS (fun H locs hW hS => ?_)
    refine lv_iload hx hb dL_law_680 (lv_at hl 1 rfl) ?_
    refine lv_icmp_eq (tgt := 687) hx hb dL_law_682 (by decide) (fun _ => ?_) (fun q => absurd rfl q)
    refine lv_iload hx hb dL_law_687 (lv_at hl 1 rfl) ?_
    refine lv_if_ne (tgt := 711) hx hb dL_law_689 (by decide) (fun ck => ?_) (fun ck => ?_)
    · skip
      refine lv_goto (tgt := 1487) hx hb dL_law_711 (by decide) ?_
      refine W.widen (k := cells + 300) (n := slots + 1100) (by omega) (by omega) ?_
      exact kk _ _ _ hW hS (lv_sub hl [2, 3, 4, 5, 6] rfl)
    · have hV1 := hV ck
      refine lv_aload_n hx hb dL_law_692 rfl (lv_at hl 3 rfl) ?_
      refine lv_iconst (v := 0) hx hb dL_law_693 (by decide) ?_
      refine lld (h := h) C0 hK hW (show vp_in 0 1 by unfold vp_in; decide) dL_law_694 ?_
      have hV2 : σ2.2 30 0 (0 : Int32).toNatClampNeg = _ := hV1
      rw [hV2]
      refine lv_iload hx hb dL_law_695 (lv_at hl 0 rfl) ?_
      refine lv_if_eq (tgt := 704) hx hb dL_law_697 (by decide) (fun cv => ?_) (fun cv => ?_)
      · rw [if_pos cv]
        refine lv_lconst (v := 0) hx hb dL_law_704 (by decide) ?_
        refine W.lcmp hx hb dL_law_705 ?_
        rw [lg_cmp_self]
        refine lv_if_eq (tgt := 711) hx hb dL_law_706 (by decide) (fun _ => ?_) (fun q => absurd rfl q)
        refine lv_goto (tgt := 1487) hx hb dL_law_711 (by decide) ?_
        refine W.widen (k := cells + 300) (n := slots + 1100) (by omega) (by omega) ?_
        exact kk _ _ _ hW hS (lv_sub hl [2, 3, 4, 5, 6] rfl)
      · rw [if_neg cv]
        refine lv_lconst (v := 1) hx hb dL_law_700 (by decide) ?_
        refine lv_goto (tgt := 705) hx hb dL_law_701 (by decide) ?_
        refine W.lcmp hx hb dL_law_705 ?_
        rw [lg_cmp_self]
        refine lv_if_eq (tgt := 711) hx hb dL_law_706 (by decide) (fun _ => ?_) (fun q => absurd rfl q)
        refine lv_goto (tgt := 1487) hx hb dL_law_711 (by decide) ?_
        refine W.widen (k := cells + 300) (n := slots + 1100) (by omega) (by omega) ?_
        exact kk _ _ _ hW hS (lv_sub hl [2, 3, 4, 5, 6] rfl)
  · rw [if_neg cb] at hP1 hP2
    refine lv_iconst (v := 1) hx hb dL_law_639 (by decide) ?_
    refine lv_goto (tgt := 644) hx hb dL_law_640 (by decide) ?_
    refine lv_aload_n hx hb dL_law_644 rfl (lv_at hl 1 rfl) ?_
    refine inI (runSW C0 hlo hK hZ hW hS (kL_engage l hnt lo g h σ (xs (i + 1)) 1 _ _ hP1) wCW_L_engage wML_L_106 wST_L_engage wIN_L hdsL_engage ⟨(Nat.le_of_ble_eq_true rfl), (Nat.le_of_ble_eq_true rfl)⟩ rfl hl.1 rfl (Nat.le_of_ble_eq_true rfl) dL_law_645 ⟨(by omega), (by omega)⟩) hS (fun H locs hW hS => ?_)
    have hl : lv_has ls 9 [(4, .int (nI i)), (3, .ref (h.2.2 30 0)), (2, .ref (h.2.2 20 0)), (1, .ref (h.2.2 0 0)), (0, .ref b)] := hl
    refine lv_istore (lv' := [(5, .int k), (4, .int (nI i)), (3, .ref (h.2.2 30 0)), (2, .ref (h.2.2 20 0)), (1, .ref (h.2.2 0 0)), (0, .ref b)]) hx hb dL_law_648 hl (by decide) rfl (fun ls hl => ?_)
    refine lv_aload_n hx hb dL_law_650 rfl (lv_at hl 3 rfl) ?_
    refine lv_aload_n hx hb dL_law_651 rfl (lv_at hl 5 rfl) ?_
    refine lv_iload hx hb dL_law_652 (lv_at hl 1 rfl) ?_
    refine lv_iconst (v := 1) hx hb dL_law_654 (by decide) ?_
    refine lv_iadd hx hb dL_law_655 ?_
    refine rdS C0 hX hbl hbA hS hi hL 1 (by decide) dL_law_656 ?_
    refine lv_aload_n hx hb dL_law_657 rfl (lv_at hl 5 rfl) ?_
    refine lv_iload hx hb dL_law_658 (lv_at hl 1 rfl) ?_
    refine lv_iconst (v := 2) hx hb dL_law_660 (by decide) ?_
    refine lv_iadd hx hb dL_law_661 ?_
    refine rdS C0 hX hbl hbA hS hi hL 2 (by decide) dL_law_662 ?_
    refine lv_if_eq (tgt := 670) hx hb dL_law_663 (by decide) (fun q => absurd q cb) (fun _ => ?_)
    refine lv_iconst (v := 1) hx hb dL_law_666 (by decide) ?_
    refine lv_goto (tgt := 671) hx hb dL_law_667 (by decide) ?_
    refine inI (runV C0 hlo hK hZ hW hS (kX5_engage l lo g h _ (xs (i + 1)) 1 _ _ hP2) wCO_X5_engage wML_L_108 wIM_X5_engage wSE_X5_X5_engage wIN_X5 hdX5_engage ⟨(Nat.le_of_ble_eq_true rfl), (Nat.le_of_ble_eq_true rfl)⟩ (recvK hK hW (al20 h 20 (by decide)) (ct20 0) rfl) rfl hl.1 rfl (Nat.le_of_ble_eq_true rfl) dL_law_671 ⟨(by omega), (by omega)⟩) hS (fun H locs hW hS => ?_)
    refine lv_istore (lv' := [(6, .int bv), (5, .int k), (4, .int (nI i)), (3, .ref (h.2.2 30 0)), (2, .ref (h.2.2 20 0)), (1, .ref (h.2.2 0 0)), (0, .ref b)]) hx hb dL_law_674 hl (by decide) rfl (fun ls hl => ?_)
    refine lv_aload_n hx hb dL_law_676 rfl (lv_at hl 4 rfl) ?_
    refine inI (runV C0 hlo hK hZ hW hS (kX5_thrown l lo g h _  _ _ hP3) wCO_X5_thrown wML_L_83 wIM_X5_thrown wSE_X5_X5_thrown wIN_X5 hdX5_thrown ⟨(Nat.le_of_ble_eq_true rfl), (Nat.le_of_ble_eq_true rfl)⟩ (recvK hK hW (al20 h 20 (by decide)) (ct20 0) rfl) rfl hl.1 rfl (Nat.le_of_ble_eq_true rfl) dL_law_677 ⟨(by omega), (by omega)⟩) hS (fun H locs hW hS => ?_)
    refine lv_iload hx hb dL_law_680 (lv_at hl 1 rfl) ?_
    refine lv_icmp_eq (tgt := 687) hx hb dL_law_682 (by decide) (fun _ => ?_) (fun q => absurd rfl q)
    refine lv_iload hx hb dL_law_687 (lv_at hl 1 rfl) ?_
    refine lv_if_ne (tgt := 711) hx hb dL_law_689 (by decide) (fun ck => ?_) (fun ck => ?_)
    · skip
      refine lv_goto (tgt := 1487) hx hb dL_law_711 (by decide) ?_
      refine W.widen (k := cells + 300) (n := slots + 1100) (by omega) (by omega) ?_
      exact kk _ _ _ hW hS (lv_sub hl [2, 3, 4, 5, 6] rfl)
    · have hV1 := hV ck
      refine lv_aload_n hx hb dL_law_692 rfl (lv_at hl 3 rfl) ?_
      refine lv_iconst (v := 0) hx hb dL_law_693 (by decide) ?_
      refine lld (h := h) C0 hK hW (show vp_in 0 1 by unfold vp_in; decide) dL_law_694 ?_
      have hV2 : σ2.2 30 0 (0 : Int32).toNatClampNeg = _ := hV1
      rw [hV2]
      refine lv_iload hx hb dL_law_695 (lv_at hl 0 rfl) ?_
      refine lv_if_eq (tgt := 704) hx hb dL_law_697 (by decide) (fun cv => ?_) (fun cv => ?_)
      · rw [if_pos cv]
        refine lv_lconst (v := 0) hx hb dL_law_704 (by decide) ?_
        refine W.lcmp hx hb dL_law_705 ?_
        rw [lg_cmp_self]
        refine lv_if_eq (tgt := 711) hx hb dL_law_706 (by decide) (fun _ => ?_) (fun q => absurd rfl q)
        refine lv_goto (tgt := 1487) hx hb dL_law_711 (by decide) ?_
        refine W.widen (k := cells + 300) (n := slots + 1100) (by omega) (by omega) ?_
        exact kk _ _ _ hW hS (lv_sub hl [2, 3, 4, 5, 6] rfl)
      · rw [if_neg cv]
        refine lv_lconst (v := 1) hx hb dL_law_700 (by decide) ?_
        refine lv_goto (tgt := 705) hx hb dL_law_701 (by decide) ?_
        refine W.lcmp hx hb dL_law_705 ?_
        rw [lg_cmp_self]
        refine lv_if_eq (tgt := 711) hx hb dL_law_706 (by decide) (fun _ => ?_) (fun q => absurd rfl q)
        refine lv_goto (tgt := 1487) hx hb dL_law_711 (by decide) ?_
        refine W.widen (k := cells + 300) (n := slots + 1100) (by omega) (by omega) ?_
        exact kk _ _ _ hW hS (lv_sub hl [2, 3, 4, 5, 6] rfl)
set_option maxHeartbeats 4000000 in
theorem sL_pin {p : Program} {l : Launch} {e : Env} {s : State} {m : MethodId} {args : Array Value} {below : List Frame} {meth : Method} {c : Code} {H : Heap} {locs : List Loc} {cells slots : Nat} {Q : State → Prop} {lo b L i : Nat} {xs : Nat → Int32} {g : Gx} {h : Sh} {σ : Sg} {ls : Array Slot} (C0 : CallFix p m c cL_law 9 s args wB RL) (hnt : l.stackTraces = false) (hlo : lo ≤ s.heap.size) (hK : KW g s) (hZ : ZW lo s s.heap) (hX : va_X b L xs s s.heap) (hbl : b < s.heap.size) (hbA : ¬ Ax lo b) (hi : i + 6 ≤ L) (hL : L ≤ 3072) (hcl : cells + 300 ≤ room_1.cells) (hsl : slots + 1100 ≤ room_1.slots) (hW : FW g h (Ax lo) σ H) (hS : va_S (Ax lo) s.heap H locs) (hl : lv_has ls 9 [(4, .int (nI i)), (3, .ref (h.2.2 30 0)), (2, .ref (h.2.2 20 0)), (1, .ref (h.2.2 0 0)), (0, .ref b)])
    {k bv : Int32} {σ1 σ2 : Sg} (hP1 : FL_pin h.1 h.2.1 σ (xs (i + 1)) (xs (i + 2)) (xs (i + 3)) = some (k, σ1)) (hP2 : FX5_pin h.1 h.2.1 σ1 (xs (i + 1)) (xs (i + 2)) (xs (i + 3)) = some (bv, σ2)) (hT : σ2.1 20 0 0 = k) (hV : k = 0 → σ2.2 30 0 0 = bv.toInt64) (kk : ∀ (H1 : Heap) (locs1 : List Loc) (ls1 : Array Slot), FW g h (Ax lo) σ2 H1 → va_S (Ax lo) s.heap H1 locs1 → lv_has ls1 9 [(4, .int (nI i)), (3, .ref (h.2.2 30 0)), (2, .ref (h.2.2 20 0)), (1, .ref (h.2.2 0 0)), (0, .ref b)] → W p l e room_1 s m args below meth c H1 locs1 (cells + 300) (slots + 1100) Q (F0 m 1487 ls1 [])) : W p l e room_1 s m args below meth c H locs cells slots Q (F0 m 714 ls []) := by
  have hx := C0.1
  have hb := C0.2.1
  have hP3 : FX5_thrown h.1 h.2.1 σ2 = some (k, σ2) := by rw [← hT]; rfl
  refine lv_aload_n hx hb dL_law_714 rfl (lv_at hl 3 rfl) ?_
  refine lv_aload_n hx hb dL_law_715 rfl (lv_at hl 4 rfl) ?_
  refine lv_iload hx hb dL_law_716 (lv_at hl 0 rfl) ?_
  refine lv_iconst (v := 1) hx hb dL_law_718 (by decide) ?_
  refine lv_iadd hx hb dL_law_719 ?_
  refine rdS C0 hX hbl hbA hS hi hL 1 (by decide) dL_law_720 ?_
  refine lv_aload_n hx hb dL_law_721 rfl (lv_at hl 4 rfl) ?_
  refine lv_iload hx hb dL_law_722 (lv_at hl 0 rfl) ?_
  refine lv_iconst (v := 2) hx hb dL_law_724 (by decide) ?_
  refine lv_iadd hx hb dL_law_725 ?_
  refine rdS C0 hX hbl hbA hS hi hL 2 (by decide) dL_law_726 ?_
  refine lv_aload_n hx hb dL_law_727 rfl (lv_at hl 4 rfl) ?_
  refine lv_iload hx hb dL_law_728 (lv_at hl 0 rfl) ?_
  refine lv_iconst (v := 3) hx hb dL_law_730 (by decide) ?_
  refine lv_iadd hx hb dL_law_731 ?_
  refine rdS C0 hX hbl hbA hS hi hL 3 (by decide) dL_law_732 ?_
  refine lv_aload_n hx hb dL_law_733 rfl (lv_at hl 1 rfl) ?_
  refine inI (runSW C0 hlo hK hZ hW hS (kL_pin l hnt lo g h σ (xs (i + 1)) (xs (i + 2)) (xs (i + 3)) _ _ hP1) wCW_L_pin wML_L_109 wST_L_pin wIN_L hdsL_pin ⟨(Nat.le_of_ble_eq_true rfl), (Nat.le_of_ble_eq_true rfl)⟩ rfl hl.1 rfl (Nat.le_of_ble_eq_true rfl) dL_law_734 ⟨(by omega), (by omega)⟩) hS (fun H locs hW hS => ?_)
  have hl : lv_has ls 9 [(4, .int (nI i)), (3, .ref (h.2.2 30 0)), (2, .ref (h.2.2 20 0)), (1, .ref (h.2.2 0 0)), (0, .ref b)] := hl
  refine lv_istore (lv' := [(5, .int k), (4, .int (nI i)), (3, .ref (h.2.2 30 0)), (2, .ref (h.2.2 20 0)), (1, .ref (h.2.2 0 0)), (0, .ref b)]) hx hb dL_law_737 hl (by decide) rfl (fun ls hl => ?_)
  refine lv_aload_n hx hb dL_law_739 rfl (lv_at hl 3 rfl) ?_
  refine lv_aload_n hx hb dL_law_740 rfl (lv_at hl 5 rfl) ?_
  refine lv_iload hx hb dL_law_741 (lv_at hl 1 rfl) ?_
  refine lv_iconst (v := 1) hx hb dL_law_743 (by decide) ?_
  refine lv_iadd hx hb dL_law_744 ?_
  refine rdS C0 hX hbl hbA hS hi hL 1 (by decide) dL_law_745 ?_
  refine lv_aload_n hx hb dL_law_746 rfl (lv_at hl 5 rfl) ?_
  refine lv_iload hx hb dL_law_747 (lv_at hl 1 rfl) ?_
  refine lv_iconst (v := 2) hx hb dL_law_749 (by decide) ?_
  refine lv_iadd hx hb dL_law_750 ?_
  refine rdS C0 hX hbl hbA hS hi hL 2 (by decide) dL_law_751 ?_
  refine lv_aload_n hx hb dL_law_752 rfl (lv_at hl 5 rfl) ?_
  refine lv_iload hx hb dL_law_753 (lv_at hl 1 rfl) ?_
  refine lv_iconst (v := 3) hx hb dL_law_755 (by decide) ?_
  refine lv_iadd hx hb dL_law_756 ?_
  refine rdS C0 hX hbl hbA hS hi hL 3 (by decide) dL_law_757 ?_
  refine inI (runV C0 hlo hK hZ hW hS (kX5_pin l lo g h _ (xs (i + 1)) (xs (i + 2)) (xs (i + 3)) _ _ hP2) wCO_X5_pin wML_L_112 wIM_X5_pin wSE_X5_X5_pin wIN_X5 hdX5_pin ⟨(Nat.le_of_ble_eq_true rfl), (Nat.le_of_ble_eq_true rfl)⟩ (recvK hK hW (al20 h 20 (by decide)) (ct20 0) rfl) rfl hl.1 rfl (Nat.le_of_ble_eq_true rfl) dL_law_758 ⟨(by omega), (by omega)⟩) hS (fun H locs hW hS => ?_)
  refine lv_istore (lv' := [(6, .int bv), (5, .int k), (4, .int (nI i)), (3, .ref (h.2.2 30 0)), (2, .ref (h.2.2 20 0)), (1, .ref (h.2.2 0 0)), (0, .ref b)]) hx hb dL_law_761 hl (by decide) rfl (fun ls hl => ?_)
  refine lv_aload_n hx hb dL_law_763 rfl (lv_at hl 4 rfl) ?_
  refine inI (runV C0 hlo hK hZ hW hS (kX5_thrown l lo g h _  _ _ hP3) wCO_X5_thrown wML_L_83 wIM_X5_thrown wSE_X5_X5_thrown wIN_X5 hdX5_thrown ⟨(Nat.le_of_ble_eq_true rfl), (Nat.le_of_ble_eq_true rfl)⟩ (recvK hK hW (al20 h 20 (by decide)) (ct20 0) rfl) rfl hl.1 rfl (Nat.le_of_ble_eq_true rfl) dL_law_764 ⟨(by omega), (by omega)⟩) hS (fun H locs hW hS => ?_)
  refine lv_iload hx hb dL_law_767 (lv_at hl 1 rfl) ?_
  refine lv_icmp_eq (tgt := 774) hx hb dL_law_769 (by decide) (fun _ => ?_) (fun q => absurd rfl q)
  refine lv_iload hx hb dL_law_774 (lv_at hl 1 rfl) ?_
  refine lv_if_ne (tgt := 791) hx hb dL_law_776 (by decide) (fun ck => ?_) (fun ck => ?_)
  · skip
    refine lv_goto (tgt := 1487) hx hb dL_law_791 (by decide) ?_
    refine W.widen (k := cells + 300) (n := slots + 1100) (by omega) (by omega) ?_
    exact kk _ _ _ hW hS (lv_sub hl [2, 3, 4, 5, 6] rfl)
  · have hV1 := hV ck
    refine lv_aload_n hx hb dL_law_779 rfl (lv_at hl 3 rfl) ?_
    refine lv_iconst (v := 0) hx hb dL_law_780 (by decide) ?_
    refine lld (h := h) C0 hK hW (show vp_in 0 1 by unfold vp_in; decide) dL_law_781 ?_
    have hV2 : σ2.2 30 0 (0 : Int32).toNatClampNeg = _ := hV1
    rw [hV2]
    refine lv_iload hx hb dL_law_782 (lv_at hl 0 rfl) ?_
    refine lv_i2l hx hb dL_law_784 rfl ?_
    refine W.lcmp hx hb dL_law_785 ?_
    rw [lg_cmp_self]
    refine lv_if_eq (tgt := 791) hx hb dL_law_786 (by decide) (fun _ => ?_) (fun q => absurd rfl q)
    refine lv_goto (tgt := 1487) hx hb dL_law_791 (by decide) ?_
    refine W.widen (k := cells + 300) (n := slots + 1100) (by omega) (by omega) ?_
    exact kk _ _ _ hW hS (lv_sub hl [2, 3, 4, 5, 6] rfl)
set_option maxHeartbeats 4000000 in
theorem sL_tune {p : Program} {l : Launch} {e : Env} {s : State} {m : MethodId} {args : Array Value} {below : List Frame} {meth : Method} {c : Code} {H : Heap} {locs : List Loc} {cells slots : Nat} {Q : State → Prop} {lo b L i : Nat} {xs : Nat → Int32} {g : Gx} {h : Sh} {σ : Sg} {ls : Array Slot} (C0 : CallFix p m c cL_law 9 s args wB RL) (hnt : l.stackTraces = false) (hlo : lo ≤ s.heap.size) (hK : KW g s) (hZ : ZW lo s s.heap) (hX : va_X b L xs s s.heap) (hbl : b < s.heap.size) (hbA : ¬ Ax lo b) (hi : i + 6 ≤ L) (hL : L ≤ 3072) (hcl : cells + 300 ≤ room_1.cells) (hsl : slots + 1100 ≤ room_1.slots) (hW : FW g h (Ax lo) σ H) (hS : va_S (Ax lo) s.heap H locs) (hl : lv_has ls 9 [(4, .int (nI i)), (3, .ref (h.2.2 30 0)), (2, .ref (h.2.2 20 0)), (1, .ref (h.2.2 0 0)), (0, .ref b)])
    {k bv : Int32} {σ1 σ2 : Sg} (hP1 : FL_tune h.1 h.2.1 σ (xs (i + 1)) (xs (i + 2)) (xs (i + 3)) = some (k, σ1)) (hP2 : FX5_tune h.1 h.2.1 σ1 (xs (i + 1)) (xs (i + 2)) (xs (i + 3)) = some (bv, σ2)) (hT : σ2.1 20 0 0 = k) (hV : k = 0 → σ2.2 30 0 0 = bv.toInt64) (kk : ∀ (H1 : Heap) (locs1 : List Loc) (ls1 : Array Slot), FW g h (Ax lo) σ2 H1 → va_S (Ax lo) s.heap H1 locs1 → lv_has ls1 9 [(4, .int (nI i)), (3, .ref (h.2.2 30 0)), (2, .ref (h.2.2 20 0)), (1, .ref (h.2.2 0 0)), (0, .ref b)] → W p l e room_1 s m args below meth c H1 locs1 (cells + 300) (slots + 1100) Q (F0 m 1487 ls1 [])) : W p l e room_1 s m args below meth c H locs cells slots Q (F0 m 794 ls []) := by
  have hx := C0.1
  have hb := C0.2.1
  have hP3 : FX5_thrown h.1 h.2.1 σ2 = some (k, σ2) := by rw [← hT]; rfl
  refine lv_aload_n hx hb dL_law_794 rfl (lv_at hl 3 rfl) ?_
  refine lv_aload_n hx hb dL_law_795 rfl (lv_at hl 4 rfl) ?_
  refine lv_iload hx hb dL_law_796 (lv_at hl 0 rfl) ?_
  refine lv_iconst (v := 1) hx hb dL_law_798 (by decide) ?_
  refine lv_iadd hx hb dL_law_799 ?_
  refine rdS C0 hX hbl hbA hS hi hL 1 (by decide) dL_law_800 ?_
  refine lv_aload_n hx hb dL_law_801 rfl (lv_at hl 4 rfl) ?_
  refine lv_iload hx hb dL_law_802 (lv_at hl 0 rfl) ?_
  refine lv_iconst (v := 2) hx hb dL_law_804 (by decide) ?_
  refine lv_iadd hx hb dL_law_805 ?_
  refine rdS C0 hX hbl hbA hS hi hL 2 (by decide) dL_law_806 ?_
  refine lv_aload_n hx hb dL_law_807 rfl (lv_at hl 4 rfl) ?_
  refine lv_iload hx hb dL_law_808 (lv_at hl 0 rfl) ?_
  refine lv_iconst (v := 3) hx hb dL_law_810 (by decide) ?_
  refine lv_iadd hx hb dL_law_811 ?_
  refine rdS C0 hX hbl hbA hS hi hL 3 (by decide) dL_law_812 ?_
  refine lv_aload_n hx hb dL_law_813 rfl (lv_at hl 1 rfl) ?_
  refine inI (runSW C0 hlo hK hZ hW hS (kL_tune l hnt lo g h σ (xs (i + 1)) (xs (i + 2)) (xs (i + 3)) _ _ hP1) wCW_L_tune wML_L_113 wST_L_tune wIN_L hdsL_tune ⟨(Nat.le_of_ble_eq_true rfl), (Nat.le_of_ble_eq_true rfl)⟩ rfl hl.1 rfl (Nat.le_of_ble_eq_true rfl) dL_law_814 ⟨(by omega), (by omega)⟩) hS (fun H locs hW hS => ?_)
  have hl : lv_has ls 9 [(4, .int (nI i)), (3, .ref (h.2.2 30 0)), (2, .ref (h.2.2 20 0)), (1, .ref (h.2.2 0 0)), (0, .ref b)] := hl
  refine lv_istore (lv' := [(5, .int k), (4, .int (nI i)), (3, .ref (h.2.2 30 0)), (2, .ref (h.2.2 20 0)), (1, .ref (h.2.2 0 0)), (0, .ref b)]) hx hb dL_law_817 hl (by decide) rfl (fun ls hl => ?_)
  refine lv_aload_n hx hb dL_law_819 rfl (lv_at hl 3 rfl) ?_
  refine lv_aload_n hx hb dL_law_820 rfl (lv_at hl 5 rfl) ?_
  refine lv_iload hx hb dL_law_821 (lv_at hl 1 rfl) ?_
  refine lv_iconst (v := 1) hx hb dL_law_823 (by decide) ?_
  refine lv_iadd hx hb dL_law_824 ?_
  refine rdS C0 hX hbl hbA hS hi hL 1 (by decide) dL_law_825 ?_
  refine lv_aload_n hx hb dL_law_826 rfl (lv_at hl 5 rfl) ?_
  refine lv_iload hx hb dL_law_827 (lv_at hl 1 rfl) ?_
  refine lv_iconst (v := 2) hx hb dL_law_829 (by decide) ?_
  refine lv_iadd hx hb dL_law_830 ?_
  refine rdS C0 hX hbl hbA hS hi hL 2 (by decide) dL_law_831 ?_
  refine lv_aload_n hx hb dL_law_832 rfl (lv_at hl 5 rfl) ?_
  refine lv_iload hx hb dL_law_833 (lv_at hl 1 rfl) ?_
  refine lv_iconst (v := 3) hx hb dL_law_835 (by decide) ?_
  refine lv_iadd hx hb dL_law_836 ?_
  refine rdS C0 hX hbl hbA hS hi hL 3 (by decide) dL_law_837 ?_
  refine inI (runV C0 hlo hK hZ hW hS (kX5_tune l lo g h _ (xs (i + 1)) (xs (i + 2)) (xs (i + 3)) _ _ hP2) wCO_X5_tune wML_L_115 wIM_X5_tune wSE_X5_X5_tune wIN_X5 hdX5_tune ⟨(Nat.le_of_ble_eq_true rfl), (Nat.le_of_ble_eq_true rfl)⟩ (recvK hK hW (al20 h 20 (by decide)) (ct20 0) rfl) rfl hl.1 rfl (Nat.le_of_ble_eq_true rfl) dL_law_838 ⟨(by omega), (by omega)⟩) hS (fun H locs hW hS => ?_)
  refine lv_istore (lv' := [(6, .int bv), (5, .int k), (4, .int (nI i)), (3, .ref (h.2.2 30 0)), (2, .ref (h.2.2 20 0)), (1, .ref (h.2.2 0 0)), (0, .ref b)]) hx hb dL_law_841 hl (by decide) rfl (fun ls hl => ?_)
  refine lv_aload_n hx hb dL_law_843 rfl (lv_at hl 4 rfl) ?_
  refine inI (runV C0 hlo hK hZ hW hS (kX5_thrown l lo g h _  _ _ hP3) wCO_X5_thrown wML_L_83 wIM_X5_thrown wSE_X5_X5_thrown wIN_X5 hdX5_thrown ⟨(Nat.le_of_ble_eq_true rfl), (Nat.le_of_ble_eq_true rfl)⟩ (recvK hK hW (al20 h 20 (by decide)) (ct20 0) rfl) rfl hl.1 rfl (Nat.le_of_ble_eq_true rfl) dL_law_844 ⟨(by omega), (by omega)⟩) hS (fun H locs hW hS => ?_)
  refine lv_iload hx hb dL_law_847 (lv_at hl 1 rfl) ?_
  refine lv_icmp_eq (tgt := 854) hx hb dL_law_849 (by decide) (fun _ => ?_) (fun q => absurd rfl q)
  refine lv_iload hx hb dL_law_854 (lv_at hl 1 rfl) ?_
  refine lv_if_ne (tgt := 871) hx hb dL_law_856 (by decide) (fun ck => ?_) (fun ck => ?_)
  · skip
    refine lv_goto (tgt := 1487) hx hb dL_law_871 (by decide) ?_
    refine W.widen (k := cells + 300) (n := slots + 1100) (by omega) (by omega) ?_
    exact kk _ _ _ hW hS (lv_sub hl [2, 3, 4, 5, 6] rfl)
  · have hV1 := hV ck
    refine lv_aload_n hx hb dL_law_859 rfl (lv_at hl 3 rfl) ?_
    refine lv_iconst (v := 0) hx hb dL_law_860 (by decide) ?_
    refine lld (h := h) C0 hK hW (show vp_in 0 1 by unfold vp_in; decide) dL_law_861 ?_
    have hV2 : σ2.2 30 0 (0 : Int32).toNatClampNeg = _ := hV1
    rw [hV2]
    refine lv_iload hx hb dL_law_862 (lv_at hl 0 rfl) ?_
    refine lv_i2l hx hb dL_law_864 rfl ?_
    refine W.lcmp hx hb dL_law_865 ?_
    rw [lg_cmp_self]
    refine lv_if_eq (tgt := 871) hx hb dL_law_866 (by decide) (fun _ => ?_) (fun q => absurd rfl q)
    refine lv_goto (tgt := 1487) hx hb dL_law_871 (by decide) ?_
    refine W.widen (k := cells + 300) (n := slots + 1100) (by omega) (by omega) ?_
    exact kk _ _ _ hW hS (lv_sub hl [2, 3, 4, 5, 6] rfl)
set_option maxHeartbeats 4000000 in
theorem sL_point {p : Program} {l : Launch} {e : Env} {s : State} {m : MethodId} {args : Array Value} {below : List Frame} {meth : Method} {c : Code} {H : Heap} {locs : List Loc} {cells slots : Nat} {Q : State → Prop} {lo b L i : Nat} {xs : Nat → Int32} {g : Gx} {h : Sh} {σ : Sg} {ls : Array Slot} (C0 : CallFix p m c cL_law 9 s args wB RL) (hnt : l.stackTraces = false) (hlo : lo ≤ s.heap.size) (hK : KW g s) (hZ : ZW lo s s.heap) (hX : va_X b L xs s s.heap) (hbl : b < s.heap.size) (hbA : ¬ Ax lo b) (hi : i + 6 ≤ L) (hL : L ≤ 3072) (hcl : cells + 300 ≤ room_1.cells) (hsl : slots + 1100 ≤ room_1.slots) (hW : FW g h (Ax lo) σ H) (hS : va_S (Ax lo) s.heap H locs) (hl : lv_has ls 9 [(4, .int (nI i)), (3, .ref (h.2.2 30 0)), (2, .ref (h.2.2 20 0)), (1, .ref (h.2.2 0 0)), (0, .ref b)])
    {k bv : Int32} {σ1 σ2 : Sg} (hP1 : FL_point h.1 h.2.1 σ (xs (i + 1)) (xs (i + 2)) (xs (i + 3)) (xs (i + 4)) = some (k, σ1)) (hP2 : FX5_point h.1 h.2.1 σ1 (xs (i + 1)) (xs (i + 2)) (xs (i + 3)) (xs (i + 4)) = some (bv, σ2)) (hT : σ2.1 20 0 0 = k) (hV : k = 0 → σ2.2 30 0 0 = bv.toInt64) (kk : ∀ (H1 : Heap) (locs1 : List Loc) (ls1 : Array Slot), FW g h (Ax lo) σ2 H1 → va_S (Ax lo) s.heap H1 locs1 → lv_has ls1 9 [(4, .int (nI i)), (3, .ref (h.2.2 30 0)), (2, .ref (h.2.2 20 0)), (1, .ref (h.2.2 0 0)), (0, .ref b)] → W p l e room_1 s m args below meth c H1 locs1 (cells + 300) (slots + 1100) Q (F0 m 1487 ls1 [])) : W p l e room_1 s m args below meth c H locs cells slots Q (F0 m 874 ls []) := by
  have hx := C0.1
  have hb := C0.2.1
  have hP3 : FX5_thrown h.1 h.2.1 σ2 = some (k, σ2) := by rw [← hT]; rfl
  refine lv_aload_n hx hb dL_law_874 rfl (lv_at hl 3 rfl) ?_
  refine lv_aload_n hx hb dL_law_875 rfl (lv_at hl 4 rfl) ?_
  refine lv_iload hx hb dL_law_876 (lv_at hl 0 rfl) ?_
  refine lv_iconst (v := 1) hx hb dL_law_878 (by decide) ?_
  refine lv_iadd hx hb dL_law_879 ?_
  refine rdS C0 hX hbl hbA hS hi hL 1 (by decide) dL_law_880 ?_
  refine lv_aload_n hx hb dL_law_881 rfl (lv_at hl 4 rfl) ?_
  refine lv_iload hx hb dL_law_882 (lv_at hl 0 rfl) ?_
  refine lv_iconst (v := 2) hx hb dL_law_884 (by decide) ?_
  refine lv_iadd hx hb dL_law_885 ?_
  refine rdS C0 hX hbl hbA hS hi hL 2 (by decide) dL_law_886 ?_
  refine lv_aload_n hx hb dL_law_887 rfl (lv_at hl 4 rfl) ?_
  refine lv_iload hx hb dL_law_888 (lv_at hl 0 rfl) ?_
  refine lv_iconst (v := 3) hx hb dL_law_890 (by decide) ?_
  refine lv_iadd hx hb dL_law_891 ?_
  refine rdS C0 hX hbl hbA hS hi hL 3 (by decide) dL_law_892 ?_
  refine lv_aload_n hx hb dL_law_893 rfl (lv_at hl 4 rfl) ?_
  refine lv_iload hx hb dL_law_894 (lv_at hl 0 rfl) ?_
  refine lv_iconst (v := 4) hx hb dL_law_896 (by decide) ?_
  refine lv_iadd hx hb dL_law_897 ?_
  refine rdS C0 hX hbl hbA hS hi hL 4 (by decide) dL_law_898 ?_
  refine lv_aload_n hx hb dL_law_899 rfl (lv_at hl 1 rfl) ?_
  refine inI (runSW C0 hlo hK hZ hW hS (kL_point l hnt lo g h σ (xs (i + 1)) (xs (i + 2)) (xs (i + 3)) (xs (i + 4)) _ _ hP1) wCW_L_point wML_L_116 wST_L_point wIN_L hdsL_point ⟨(Nat.le_of_ble_eq_true rfl), (Nat.le_of_ble_eq_true rfl)⟩ rfl hl.1 rfl (Nat.le_of_ble_eq_true rfl) dL_law_900 ⟨(by omega), (by omega)⟩) hS (fun H locs hW hS => ?_)
  have hl : lv_has ls 9 [(4, .int (nI i)), (3, .ref (h.2.2 30 0)), (2, .ref (h.2.2 20 0)), (1, .ref (h.2.2 0 0)), (0, .ref b)] := hl
  refine lv_istore (lv' := [(5, .int k), (4, .int (nI i)), (3, .ref (h.2.2 30 0)), (2, .ref (h.2.2 20 0)), (1, .ref (h.2.2 0 0)), (0, .ref b)]) hx hb dL_law_903 hl (by decide) rfl (fun ls hl => ?_)
  refine lv_aload_n hx hb dL_law_905 rfl (lv_at hl 3 rfl) ?_
  refine lv_aload_n hx hb dL_law_906 rfl (lv_at hl 5 rfl) ?_
  refine lv_iload hx hb dL_law_907 (lv_at hl 1 rfl) ?_
  refine lv_iconst (v := 1) hx hb dL_law_909 (by decide) ?_
  refine lv_iadd hx hb dL_law_910 ?_
  refine rdS C0 hX hbl hbA hS hi hL 1 (by decide) dL_law_911 ?_
  refine lv_aload_n hx hb dL_law_912 rfl (lv_at hl 5 rfl) ?_
  refine lv_iload hx hb dL_law_913 (lv_at hl 1 rfl) ?_
  refine lv_iconst (v := 2) hx hb dL_law_915 (by decide) ?_
  refine lv_iadd hx hb dL_law_916 ?_
  refine rdS C0 hX hbl hbA hS hi hL 2 (by decide) dL_law_917 ?_
  refine lv_aload_n hx hb dL_law_918 rfl (lv_at hl 5 rfl) ?_
  refine lv_iload hx hb dL_law_919 (lv_at hl 1 rfl) ?_
  refine lv_iconst (v := 3) hx hb dL_law_921 (by decide) ?_
  refine lv_iadd hx hb dL_law_922 ?_
  refine rdS C0 hX hbl hbA hS hi hL 3 (by decide) dL_law_923 ?_
  refine lv_aload_n hx hb dL_law_924 rfl (lv_at hl 5 rfl) ?_
  refine lv_iload hx hb dL_law_925 (lv_at hl 1 rfl) ?_
  refine lv_iconst (v := 4) hx hb dL_law_927 (by decide) ?_
  refine lv_iadd hx hb dL_law_928 ?_
  refine rdS C0 hX hbl hbA hS hi hL 4 (by decide) dL_law_929 ?_
  refine inI (runV C0 hlo hK hZ hW hS (kX5_point l lo g h _ (xs (i + 1)) (xs (i + 2)) (xs (i + 3)) (xs (i + 4)) _ _ hP2) wCO_X5_point wML_L_119 wIM_X5_point wSE_X5_X5_point wIN_X5 hdX5_point ⟨(Nat.le_of_ble_eq_true rfl), (Nat.le_of_ble_eq_true rfl)⟩ (recvK hK hW (al20 h 20 (by decide)) (ct20 0) rfl) rfl hl.1 rfl (Nat.le_of_ble_eq_true rfl) dL_law_930 ⟨(by omega), (by omega)⟩) hS (fun H locs hW hS => ?_)
  refine lv_istore (lv' := [(6, .int bv), (5, .int k), (4, .int (nI i)), (3, .ref (h.2.2 30 0)), (2, .ref (h.2.2 20 0)), (1, .ref (h.2.2 0 0)), (0, .ref b)]) hx hb dL_law_933 hl (by decide) rfl (fun ls hl => ?_)
  refine lv_aload_n hx hb dL_law_935 rfl (lv_at hl 4 rfl) ?_
  refine inI (runV C0 hlo hK hZ hW hS (kX5_thrown l lo g h _  _ _ hP3) wCO_X5_thrown wML_L_83 wIM_X5_thrown wSE_X5_X5_thrown wIN_X5 hdX5_thrown ⟨(Nat.le_of_ble_eq_true rfl), (Nat.le_of_ble_eq_true rfl)⟩ (recvK hK hW (al20 h 20 (by decide)) (ct20 0) rfl) rfl hl.1 rfl (Nat.le_of_ble_eq_true rfl) dL_law_936 ⟨(by omega), (by omega)⟩) hS (fun H locs hW hS => ?_)
  refine lv_iload hx hb dL_law_939 (lv_at hl 1 rfl) ?_
  refine lv_icmp_eq (tgt := 946) hx hb dL_law_941 (by decide) (fun _ => ?_) (fun q => absurd rfl q)
  refine lv_iload hx hb dL_law_946 (lv_at hl 1 rfl) ?_
  refine lv_if_ne (tgt := 963) hx hb dL_law_948 (by decide) (fun ck => ?_) (fun ck => ?_)
  · skip
    refine lv_goto (tgt := 1487) hx hb dL_law_963 (by decide) ?_
    refine W.widen (k := cells + 300) (n := slots + 1100) (by omega) (by omega) ?_
    exact kk _ _ _ hW hS (lv_sub hl [2, 3, 4, 5, 6] rfl)
  · have hV1 := hV ck
    refine lv_aload_n hx hb dL_law_951 rfl (lv_at hl 3 rfl) ?_
    refine lv_iconst (v := 0) hx hb dL_law_952 (by decide) ?_
    refine lld (h := h) C0 hK hW (show vp_in 0 1 by unfold vp_in; decide) dL_law_953 ?_
    have hV2 : σ2.2 30 0 (0 : Int32).toNatClampNeg = _ := hV1
    rw [hV2]
    refine lv_iload hx hb dL_law_954 (lv_at hl 0 rfl) ?_
    refine lv_i2l hx hb dL_law_956 rfl ?_
    refine W.lcmp hx hb dL_law_957 ?_
    rw [lg_cmp_self]
    refine lv_if_eq (tgt := 963) hx hb dL_law_958 (by decide) (fun _ => ?_) (fun q => absurd rfl q)
    refine lv_goto (tgt := 1487) hx hb dL_law_963 (by decide) ?_
    refine W.widen (k := cells + 300) (n := slots + 1100) (by omega) (by omega) ?_
    exact kk _ _ _ hW hS (lv_sub hl [2, 3, 4, 5, 6] rfl)
set_option maxHeartbeats 4000000 in
theorem sL_bird {p : Program} {l : Launch} {e : Env} {s : State} {m : MethodId} {args : Array Value} {below : List Frame} {meth : Method} {c : Code} {H : Heap} {locs : List Loc} {cells slots : Nat} {Q : State → Prop} {lo b L i : Nat} {xs : Nat → Int32} {g : Gx} {h : Sh} {σ : Sg} {ls : Array Slot} (C0 : CallFix p m c cL_law 9 s args wB RL) (hnt : l.stackTraces = false) (hlo : lo ≤ s.heap.size) (hK : KW g s) (hZ : ZW lo s s.heap) (hX : va_X b L xs s s.heap) (hbl : b < s.heap.size) (hbA : ¬ Ax lo b) (hi : i + 6 ≤ L) (hL : L ≤ 3072) (hcl : cells + 300 ≤ room_1.cells) (hsl : slots + 1100 ≤ room_1.slots) (hW : FW g h (Ax lo) σ H) (hS : va_S (Ax lo) s.heap H locs) (hl : lv_has ls 9 [(4, .int (nI i)), (3, .ref (h.2.2 30 0)), (2, .ref (h.2.2 20 0)), (1, .ref (h.2.2 0 0)), (0, .ref b)])
    {k bv : Int32} {σ1 σ2 : Sg} (hP1 : FL_bird h.1 h.2.1 σ (xs (i + 1)) (xs (i + 2)) = some (k, σ1)) (hP2 : FX5_bird h.1 h.2.1 σ1 (xs (i + 1)) (xs (i + 2)) = some (bv, σ2)) (hT : σ2.1 20 0 0 = k) (hV : k = 0 → σ2.2 30 0 0 = bv.toInt64) (kk : ∀ (H1 : Heap) (locs1 : List Loc) (ls1 : Array Slot), FW g h (Ax lo) σ2 H1 → va_S (Ax lo) s.heap H1 locs1 → lv_has ls1 9 [(4, .int (nI i)), (3, .ref (h.2.2 30 0)), (2, .ref (h.2.2 20 0)), (1, .ref (h.2.2 0 0)), (0, .ref b)] → W p l e room_1 s m args below meth c H1 locs1 (cells + 300) (slots + 1100) Q (F0 m 1487 ls1 [])) : W p l e room_1 s m args below meth c H locs cells slots Q (F0 m 966 ls []) := by
  have hx := C0.1
  have hb := C0.2.1
  have hP3 : FX5_thrown h.1 h.2.1 σ2 = some (k, σ2) := by rw [← hT]; rfl
  refine lv_aload_n hx hb dL_law_966 rfl (lv_at hl 3 rfl) ?_
  refine lv_aload_n hx hb dL_law_967 rfl (lv_at hl 4 rfl) ?_
  refine lv_iload hx hb dL_law_968 (lv_at hl 0 rfl) ?_
  refine lv_iconst (v := 1) hx hb dL_law_970 (by decide) ?_
  refine lv_iadd hx hb dL_law_971 ?_
  refine rdS C0 hX hbl hbA hS hi hL 1 (by decide) dL_law_972 ?_
  refine lv_aload_n hx hb dL_law_973 rfl (lv_at hl 4 rfl) ?_
  refine lv_iload hx hb dL_law_974 (lv_at hl 0 rfl) ?_
  refine lv_iconst (v := 2) hx hb dL_law_976 (by decide) ?_
  refine lv_iadd hx hb dL_law_977 ?_
  refine rdS C0 hX hbl hbA hS hi hL 2 (by decide) dL_law_978 ?_
  refine lv_aload_n hx hb dL_law_979 rfl (lv_at hl 1 rfl) ?_
  refine inI (runSW C0 hlo hK hZ hW hS (kL_bird l hnt lo g h σ (xs (i + 1)) (xs (i + 2)) _ _ hP1) wCW_L_bird wML_L_120 wST_L_bird wIN_L hdsL_bird ⟨(Nat.le_of_ble_eq_true rfl), (Nat.le_of_ble_eq_true rfl)⟩ rfl hl.1 rfl (Nat.le_of_ble_eq_true rfl) dL_law_980 ⟨(by omega), (by omega)⟩) hS (fun H locs hW hS => ?_)
  have hl : lv_has ls 9 [(4, .int (nI i)), (3, .ref (h.2.2 30 0)), (2, .ref (h.2.2 20 0)), (1, .ref (h.2.2 0 0)), (0, .ref b)] := hl
  refine lv_istore (lv' := [(5, .int k), (4, .int (nI i)), (3, .ref (h.2.2 30 0)), (2, .ref (h.2.2 20 0)), (1, .ref (h.2.2 0 0)), (0, .ref b)]) hx hb dL_law_983 hl (by decide) rfl (fun ls hl => ?_)
  refine lv_aload_n hx hb dL_law_985 rfl (lv_at hl 3 rfl) ?_
  refine lv_aload_n hx hb dL_law_986 rfl (lv_at hl 5 rfl) ?_
  refine lv_iload hx hb dL_law_987 (lv_at hl 1 rfl) ?_
  refine lv_iconst (v := 1) hx hb dL_law_989 (by decide) ?_
  refine lv_iadd hx hb dL_law_990 ?_
  refine rdS C0 hX hbl hbA hS hi hL 1 (by decide) dL_law_991 ?_
  refine lv_aload_n hx hb dL_law_992 rfl (lv_at hl 5 rfl) ?_
  refine lv_iload hx hb dL_law_993 (lv_at hl 1 rfl) ?_
  refine lv_iconst (v := 2) hx hb dL_law_995 (by decide) ?_
  refine lv_iadd hx hb dL_law_996 ?_
  refine rdS C0 hX hbl hbA hS hi hL 2 (by decide) dL_law_997 ?_
  refine inI (runV C0 hlo hK hZ hW hS (kX5_bird l lo g h _ (xs (i + 1)) (xs (i + 2)) _ _ hP2) wCO_X5_bird wML_L_122 wIM_X5_bird wSE_X5_X5_bird wIN_X5 hdX5_bird ⟨(Nat.le_of_ble_eq_true rfl), (Nat.le_of_ble_eq_true rfl)⟩ (recvK hK hW (al20 h 20 (by decide)) (ct20 0) rfl) rfl hl.1 rfl (Nat.le_of_ble_eq_true rfl) dL_law_998 ⟨(by omega), (by omega)⟩) hS (fun H locs hW hS => ?_)
  refine lv_istore (lv' := [(6, .int bv), (5, .int k), (4, .int (nI i)), (3, .ref (h.2.2 30 0)), (2, .ref (h.2.2 20 0)), (1, .ref (h.2.2 0 0)), (0, .ref b)]) hx hb dL_law_1001 hl (by decide) rfl (fun ls hl => ?_)
  refine lv_aload_n hx hb dL_law_1003 rfl (lv_at hl 4 rfl) ?_
  refine inI (runV C0 hlo hK hZ hW hS (kX5_thrown l lo g h _  _ _ hP3) wCO_X5_thrown wML_L_83 wIM_X5_thrown wSE_X5_X5_thrown wIN_X5 hdX5_thrown ⟨(Nat.le_of_ble_eq_true rfl), (Nat.le_of_ble_eq_true rfl)⟩ (recvK hK hW (al20 h 20 (by decide)) (ct20 0) rfl) rfl hl.1 rfl (Nat.le_of_ble_eq_true rfl) dL_law_1004 ⟨(by omega), (by omega)⟩) hS (fun H locs hW hS => ?_)
  refine lv_iload hx hb dL_law_1007 (lv_at hl 1 rfl) ?_
  refine lv_icmp_eq (tgt := 1014) hx hb dL_law_1009 (by decide) (fun _ => ?_) (fun q => absurd rfl q)
  refine lv_iload hx hb dL_law_1014 (lv_at hl 1 rfl) ?_
  refine lv_if_ne (tgt := 1031) hx hb dL_law_1016 (by decide) (fun ck => ?_) (fun ck => ?_)
  · skip
    refine lv_goto (tgt := 1487) hx hb dL_law_1031 (by decide) ?_
    refine W.widen (k := cells + 300) (n := slots + 1100) (by omega) (by omega) ?_
    exact kk _ _ _ hW hS (lv_sub hl [2, 3, 4, 5, 6] rfl)
  · have hV1 := hV ck
    refine lv_aload_n hx hb dL_law_1019 rfl (lv_at hl 3 rfl) ?_
    refine lv_iconst (v := 0) hx hb dL_law_1020 (by decide) ?_
    refine lld (h := h) C0 hK hW (show vp_in 0 1 by unfold vp_in; decide) dL_law_1021 ?_
    have hV2 : σ2.2 30 0 (0 : Int32).toNatClampNeg = _ := hV1
    rw [hV2]
    refine lv_iload hx hb dL_law_1022 (lv_at hl 0 rfl) ?_
    refine lv_i2l hx hb dL_law_1024 rfl ?_
    refine W.lcmp hx hb dL_law_1025 ?_
    rw [lg_cmp_self]
    refine lv_if_eq (tgt := 1031) hx hb dL_law_1026 (by decide) (fun _ => ?_) (fun q => absurd rfl q)
    refine lv_goto (tgt := 1487) hx hb dL_law_1031 (by decide) ?_
    refine W.widen (k := cells + 300) (n := slots + 1100) (by omega) (by omega) ?_
    exact kk _ _ _ hW hS (lv_sub hl [2, 3, 4, 5, 6] rfl)
set_option maxHeartbeats 4000000 in
theorem sL_lift {p : Program} {l : Launch} {e : Env} {s : State} {m : MethodId} {args : Array Value} {below : List Frame} {meth : Method} {c : Code} {H : Heap} {locs : List Loc} {cells slots : Nat} {Q : State → Prop} {lo b L i : Nat} {xs : Nat → Int32} {g : Gx} {h : Sh} {σ : Sg} {ls : Array Slot} (C0 : CallFix p m c cL_law 9 s args wB RL) (hnt : l.stackTraces = false) (hlo : lo ≤ s.heap.size) (hK : KW g s) (hZ : ZW lo s s.heap) (hX : va_X b L xs s s.heap) (hbl : b < s.heap.size) (hbA : ¬ Ax lo b) (hi : i + 6 ≤ L) (hL : L ≤ 3072) (hcl : cells + 300 ≤ room_1.cells) (hsl : slots + 1100 ≤ room_1.slots) (hW : FW g h (Ax lo) σ H) (hS : va_S (Ax lo) s.heap H locs) (hl : lv_has ls 9 [(4, .int (nI i)), (3, .ref (h.2.2 30 0)), (2, .ref (h.2.2 20 0)), (1, .ref (h.2.2 0 0)), (0, .ref b)])
    {k bv : Int32} {σ1 σ2 : Sg} (hP1 : FL_lift h.1 h.2.1 σ (xs (i + 1)) (xs (i + 2)) (xs (i + 3)) = some (k, σ1)) (hP2 : FX5_lift h.1 h.2.1 σ1 (xs (i + 1)) (xs (i + 2)) (xs (i + 3)) = some (bv, σ2)) (hT : σ2.1 20 0 0 = k) (hV : k = 0 → σ2.2 30 0 0 = bv.toInt64) (kk : ∀ (H1 : Heap) (locs1 : List Loc) (ls1 : Array Slot), FW g h (Ax lo) σ2 H1 → va_S (Ax lo) s.heap H1 locs1 → lv_has ls1 9 [(4, .int (nI i)), (3, .ref (h.2.2 30 0)), (2, .ref (h.2.2 20 0)), (1, .ref (h.2.2 0 0)), (0, .ref b)] → W p l e room_1 s m args below meth c H1 locs1 (cells + 300) (slots + 1100) Q (F0 m 1487 ls1 [])) : W p l e room_1 s m args below meth c H locs cells slots Q (F0 m 1034 ls []) := by
  have hx := C0.1
  have hb := C0.2.1
  have hP3 : FX5_thrown h.1 h.2.1 σ2 = some (k, σ2) := by rw [← hT]; rfl
  refine lv_aload_n hx hb dL_law_1034 rfl (lv_at hl 3 rfl) ?_
  refine lv_aload_n hx hb dL_law_1035 rfl (lv_at hl 4 rfl) ?_
  refine lv_iload hx hb dL_law_1036 (lv_at hl 0 rfl) ?_
  refine lv_iconst (v := 1) hx hb dL_law_1038 (by decide) ?_
  refine lv_iadd hx hb dL_law_1039 ?_
  refine rdS C0 hX hbl hbA hS hi hL 1 (by decide) dL_law_1040 ?_
  refine lv_aload_n hx hb dL_law_1041 rfl (lv_at hl 4 rfl) ?_
  refine lv_iload hx hb dL_law_1042 (lv_at hl 0 rfl) ?_
  refine lv_iconst (v := 2) hx hb dL_law_1044 (by decide) ?_
  refine lv_iadd hx hb dL_law_1045 ?_
  refine rdS C0 hX hbl hbA hS hi hL 2 (by decide) dL_law_1046 ?_
  refine lv_aload_n hx hb dL_law_1047 rfl (lv_at hl 4 rfl) ?_
  refine lv_iload hx hb dL_law_1048 (lv_at hl 0 rfl) ?_
  refine lv_iconst (v := 3) hx hb dL_law_1050 (by decide) ?_
  refine lv_iadd hx hb dL_law_1051 ?_
  refine rdS C0 hX hbl hbA hS hi hL 3 (by decide) dL_law_1052 ?_
  refine lv_aload_n hx hb dL_law_1053 rfl (lv_at hl 1 rfl) ?_
  refine inI (runSW C0 hlo hK hZ hW hS (kL_lift l hnt lo g h σ (xs (i + 1)) (xs (i + 2)) (xs (i + 3)) _ _ hP1) wCW_L_lift wML_L_123 wST_L_lift wIN_L hdsL_lift ⟨(Nat.le_of_ble_eq_true rfl), (Nat.le_of_ble_eq_true rfl)⟩ rfl hl.1 rfl (Nat.le_of_ble_eq_true rfl) dL_law_1054 ⟨(by omega), (by omega)⟩) hS (fun H locs hW hS => ?_)
  have hl : lv_has ls 9 [(4, .int (nI i)), (3, .ref (h.2.2 30 0)), (2, .ref (h.2.2 20 0)), (1, .ref (h.2.2 0 0)), (0, .ref b)] := hl
  refine lv_istore (lv' := [(5, .int k), (4, .int (nI i)), (3, .ref (h.2.2 30 0)), (2, .ref (h.2.2 20 0)), (1, .ref (h.2.2 0 0)), (0, .ref b)]) hx hb dL_law_1057 hl (by decide) rfl (fun ls hl => ?_)
  refine lv_aload_n hx hb dL_law_1059 rfl (lv_at hl 3 rfl) ?_
  refine lv_aload_n hx hb dL_law_1060 rfl (lv_at hl 5 rfl) ?_
  refine lv_iload hx hb dL_law_1061 (lv_at hl 1 rfl) ?_
  refine lv_iconst (v := 1) hx hb dL_law_1063 (by decide) ?_
  refine lv_iadd hx hb dL_law_1064 ?_
  refine rdS C0 hX hbl hbA hS hi hL 1 (by decide) dL_law_1065 ?_
  refine lv_aload_n hx hb dL_law_1066 rfl (lv_at hl 5 rfl) ?_
  refine lv_iload hx hb dL_law_1067 (lv_at hl 1 rfl) ?_
  refine lv_iconst (v := 2) hx hb dL_law_1069 (by decide) ?_
  refine lv_iadd hx hb dL_law_1070 ?_
  refine rdS C0 hX hbl hbA hS hi hL 2 (by decide) dL_law_1071 ?_
  refine lv_aload_n hx hb dL_law_1072 rfl (lv_at hl 5 rfl) ?_
  refine lv_iload hx hb dL_law_1073 (lv_at hl 1 rfl) ?_
  refine lv_iconst (v := 3) hx hb dL_law_1075 (by decide) ?_
  refine lv_iadd hx hb dL_law_1076 ?_
  refine rdS C0 hX hbl hbA hS hi hL 3 (by decide) dL_law_1077 ?_
  refine inI (runV C0 hlo hK hZ hW hS (kX5_lift l lo g h _ (xs (i + 1)) (xs (i + 2)) (xs (i + 3)) _ _ hP2) wCO_X5_lift wML_L_125 wIM_X5_lift wSE_X5_X5_lift wIN_X5 hdX5_lift ⟨(Nat.le_of_ble_eq_true rfl), (Nat.le_of_ble_eq_true rfl)⟩ (recvK hK hW (al20 h 20 (by decide)) (ct20 0) rfl) rfl hl.1 rfl (Nat.le_of_ble_eq_true rfl) dL_law_1078 ⟨(by omega), (by omega)⟩) hS (fun H locs hW hS => ?_)
  refine lv_istore (lv' := [(6, .int bv), (5, .int k), (4, .int (nI i)), (3, .ref (h.2.2 30 0)), (2, .ref (h.2.2 20 0)), (1, .ref (h.2.2 0 0)), (0, .ref b)]) hx hb dL_law_1081 hl (by decide) rfl (fun ls hl => ?_)
  refine lv_aload_n hx hb dL_law_1083 rfl (lv_at hl 4 rfl) ?_
  refine inI (runV C0 hlo hK hZ hW hS (kX5_thrown l lo g h _  _ _ hP3) wCO_X5_thrown wML_L_83 wIM_X5_thrown wSE_X5_X5_thrown wIN_X5 hdX5_thrown ⟨(Nat.le_of_ble_eq_true rfl), (Nat.le_of_ble_eq_true rfl)⟩ (recvK hK hW (al20 h 20 (by decide)) (ct20 0) rfl) rfl hl.1 rfl (Nat.le_of_ble_eq_true rfl) dL_law_1084 ⟨(by omega), (by omega)⟩) hS (fun H locs hW hS => ?_)
  refine lv_iload hx hb dL_law_1087 (lv_at hl 1 rfl) ?_
  refine lv_icmp_eq (tgt := 1094) hx hb dL_law_1089 (by decide) (fun _ => ?_) (fun q => absurd rfl q)
  refine lv_iload hx hb dL_law_1094 (lv_at hl 1 rfl) ?_
  refine lv_if_ne (tgt := 1111) hx hb dL_law_1096 (by decide) (fun ck => ?_) (fun ck => ?_)
  · skip
    refine lv_goto (tgt := 1487) hx hb dL_law_1111 (by decide) ?_
    refine W.widen (k := cells + 300) (n := slots + 1100) (by omega) (by omega) ?_
    exact kk _ _ _ hW hS (lv_sub hl [2, 3, 4, 5, 6] rfl)
  · have hV1 := hV ck
    refine lv_aload_n hx hb dL_law_1099 rfl (lv_at hl 3 rfl) ?_
    refine lv_iconst (v := 0) hx hb dL_law_1100 (by decide) ?_
    refine lld (h := h) C0 hK hW (show vp_in 0 1 by unfold vp_in; decide) dL_law_1101 ?_
    have hV2 : σ2.2 30 0 (0 : Int32).toNatClampNeg = _ := hV1
    rw [hV2]
    refine lv_iload hx hb dL_law_1102 (lv_at hl 0 rfl) ?_
    refine lv_i2l hx hb dL_law_1104 rfl ?_
    refine W.lcmp hx hb dL_law_1105 ?_
    rw [lg_cmp_self]
    refine lv_if_eq (tgt := 1111) hx hb dL_law_1106 (by decide) (fun _ => ?_) (fun q => absurd rfl q)
    refine lv_goto (tgt := 1487) hx hb dL_law_1111 (by decide) ?_
    refine W.widen (k := cells + 300) (n := slots + 1100) (by omega) (by omega) ?_
    exact kk _ _ _ hW hS (lv_sub hl [2, 3, 4, 5, 6] rfl)
set_option maxHeartbeats 4000000 in
theorem sL_run {p : Program} {l : Launch} {e : Env} {s : State} {m : MethodId} {args : Array Value} {below : List Frame} {meth : Method} {c : Code} {H : Heap} {locs : List Loc} {cells slots : Nat} {Q : State → Prop} {lo b L i : Nat} {xs : Nat → Int32} {g : Gx} {h : Sh} {σ : Sg} {ls : Array Slot} (C0 : CallFix p m c cL_law 9 s args wB RL) (hnt : l.stackTraces = false) (hlo : lo ≤ s.heap.size) (hK : KW g s) (hZ : ZW lo s s.heap) (hX : va_X b L xs s s.heap) (hbl : b < s.heap.size) (hbA : ¬ Ax lo b) (hi : i + 6 ≤ L) (hL : L ≤ 3072) (hcl : cells + 300 ≤ room_1.cells) (hsl : slots + 1100 ≤ room_1.slots) (hW : FW g h (Ax lo) σ H) (hS : va_S (Ax lo) s.heap H locs) (hl : lv_has ls 9 [(4, .int (nI i)), (3, .ref (h.2.2 30 0)), (2, .ref (h.2.2 20 0)), (1, .ref (h.2.2 0 0)), (0, .ref b)])
    {k bv : Int32} {σ1 σ2 : Sg} (hP1 : FL_run h.1 h.2.1 σ (xs (i + 1)) = some (k, σ1)) (hP2 : FX5_run h.1 h.2.1 σ1 (xs (i + 1)) = some (bv, σ2)) (hT : σ2.1 20 0 0 = k) (hV : k = 0 → σ2.2 30 0 0 = bv.toInt64) (hkN : kN σ2 ≤ 250) (kk : ∀ (H1 : Heap) (locs1 : List Loc) (ls1 : Array Slot), FW g h (Ax lo) σ2 H1 → va_S (Ax lo) s.heap H1 locs1 → lv_has ls1 9 [(4, .int (nI i)), (3, .ref (h.2.2 30 0)), (2, .ref (h.2.2 20 0)), (1, .ref (h.2.2 0 0)), (0, .ref b)] → W p l e room_1 s m args below meth c H1 locs1 (cells + 300) (slots + 1100) Q (F0 m 1487 ls1 [])) : W p l e room_1 s m args below meth c H locs cells slots Q (F0 m 1114 ls []) := by
  have hx := C0.1
  have hb := C0.2.1
  have hP3 : FX5_thrown h.1 h.2.1 σ2 = some (k, σ2) := by rw [← hT]; rfl
  refine lv_aload_n hx hb dL_law_1114 rfl (lv_at hl 3 rfl) ?_
  refine lv_aload_n hx hb dL_law_1115 rfl (lv_at hl 4 rfl) ?_
  refine lv_iload hx hb dL_law_1116 (lv_at hl 0 rfl) ?_
  refine lv_iconst (v := 1) hx hb dL_law_1118 (by decide) ?_
  refine lv_iadd hx hb dL_law_1119 ?_
  refine rdS C0 hX hbl hbA hS hi hL 1 (by decide) dL_law_1120 ?_
  refine lv_aload_n hx hb dL_law_1121 rfl (lv_at hl 1 rfl) ?_
  refine inI (runSW C0 hlo hK hZ hW hS (kL_run l hnt lo g h σ (xs (i + 1)) _ _ hP1) wCW_L_run wML_L_126 wST_L_run wIN_L hdsL_run ⟨(Nat.le_of_ble_eq_true rfl), (Nat.le_of_ble_eq_true rfl)⟩ rfl hl.1 rfl (Nat.le_of_ble_eq_true rfl) dL_law_1122 ⟨(by omega), (by omega)⟩) hS (fun H locs hW hS => ?_)
  have hl : lv_has ls 9 [(4, .int (nI i)), (3, .ref (h.2.2 30 0)), (2, .ref (h.2.2 20 0)), (1, .ref (h.2.2 0 0)), (0, .ref b)] := hl
  refine lv_istore (lv' := [(5, .int k), (4, .int (nI i)), (3, .ref (h.2.2 30 0)), (2, .ref (h.2.2 20 0)), (1, .ref (h.2.2 0 0)), (0, .ref b)]) hx hb dL_law_1125 hl (by decide) rfl (fun ls hl => ?_)
  refine lv_aload_n hx hb dL_law_1127 rfl (lv_at hl 3 rfl) ?_
  refine lv_aload_n hx hb dL_law_1128 rfl (lv_at hl 5 rfl) ?_
  refine lv_iload hx hb dL_law_1129 (lv_at hl 1 rfl) ?_
  refine lv_iconst (v := 1) hx hb dL_law_1131 (by decide) ?_
  refine lv_iadd hx hb dL_law_1132 ?_
  refine rdS C0 hX hbl hbA hS hi hL 1 (by decide) dL_law_1133 ?_
  refine inI (runV C0 hlo hK hZ hW hS (kX5_run l lo g h _ (xs (i + 1)) _ _ hP2) wCO_X5_run wML_L_128 wIM_X5_run wSE_X5_X5_run wIN_X5 hdX5_run ⟨(Nat.le_of_ble_eq_true rfl), (Nat.le_of_ble_eq_true rfl)⟩ (recvK hK hW (al20 h 20 (by decide)) (ct20 0) rfl) rfl hl.1 rfl (Nat.le_of_ble_eq_true rfl) dL_law_1134 ⟨(by omega), (by omega)⟩) hS (fun H locs hW hS => ?_)
  refine lv_istore (lv' := [(6, .int bv), (5, .int k), (4, .int (nI i)), (3, .ref (h.2.2 30 0)), (2, .ref (h.2.2 20 0)), (1, .ref (h.2.2 0 0)), (0, .ref b)]) hx hb dL_law_1137 hl (by decide) rfl (fun ls hl => ?_)
  refine lv_aload_n hx hb dL_law_1139 rfl (lv_at hl 4 rfl) ?_
  refine inI (runV C0 hlo hK hZ hW hS (kX5_thrown l lo g h _  _ _ hP3) wCO_X5_thrown wML_L_83 wIM_X5_thrown wSE_X5_X5_thrown wIN_X5 hdX5_thrown ⟨(Nat.le_of_ble_eq_true rfl), (Nat.le_of_ble_eq_true rfl)⟩ (recvK hK hW (al20 h 20 (by decide)) (ct20 0) rfl) rfl hl.1 rfl (Nat.le_of_ble_eq_true rfl) dL_law_1140 ⟨(by omega), (by omega)⟩) hS (fun H locs hW hS => ?_)
  refine lv_iload hx hb dL_law_1143 (lv_at hl 1 rfl) ?_
  refine lv_icmp_eq (tgt := 1150) hx hb dL_law_1145 (by decide) (fun _ => ?_) (fun q => absurd rfl q)
  refine lv_iload hx hb dL_law_1150 (lv_at hl 1 rfl) ?_
  refine lv_if_ne (tgt := 1167) hx hb dL_law_1152 (by decide) (fun ck => ?_) (fun ck => ?_)
  · skip
    refine lv_goto (tgt := 1487) hx hb dL_law_1167 (by decide) ?_
    refine W.widen (k := cells + 300) (n := slots + 1100) (by omega) (by omega) ?_
    exact kk _ _ _ hW hS (lv_sub hl [2, 3, 4, 5, 6] rfl)
  · have hV1 := hV ck
    refine lv_aload_n hx hb dL_law_1155 rfl (lv_at hl 3 rfl) ?_
    refine lv_iconst (v := 0) hx hb dL_law_1156 (by decide) ?_
    refine lld (h := h) C0 hK hW (show vp_in 0 1 by unfold vp_in; decide) dL_law_1157 ?_
    have hV2 : σ2.2 30 0 (0 : Int32).toNatClampNeg = _ := hV1
    rw [hV2]
    refine lv_iload hx hb dL_law_1158 (lv_at hl 0 rfl) ?_
    refine lv_i2l hx hb dL_law_1160 rfl ?_
    refine W.lcmp hx hb dL_law_1161 ?_
    rw [lg_cmp_self]
    refine lv_if_eq (tgt := 1167) hx hb dL_law_1162 (by decide) (fun _ => ?_) (fun q => absurd rfl q)
    refine lv_goto (tgt := 1487) hx hb dL_law_1167 (by decide) ?_
    refine W.widen (k := cells + 300) (n := slots + 1100) (by omega) (by omega) ?_
    exact kk _ _ _ hW hS (lv_sub hl [2, 3, 4, 5, 6] rfl)
set_option maxHeartbeats 4000000 in
theorem sL_count {p : Program} {l : Launch} {e : Env} {s : State} {m : MethodId} {args : Array Value} {below : List Frame} {meth : Method} {c : Code} {H : Heap} {locs : List Loc} {cells slots : Nat} {Q : State → Prop} {lo b L i : Nat} {xs : Nat → Int32} {g : Gx} {h : Sh} {σ : Sg} {ls : Array Slot} (C0 : CallFix p m c cL_law 9 s args wB RL) (hnt : l.stackTraces = false) (hlo : lo ≤ s.heap.size) (hK : KW g s) (hZ : ZW lo s s.heap) (hX : va_X b L xs s s.heap) (hbl : b < s.heap.size) (hbA : ¬ Ax lo b) (hi : i + 6 ≤ L) (hL : L ≤ 3072) (hcl : cells + 300 ≤ room_1.cells) (hsl : slots + 1100 ≤ room_1.slots) (hW : FW g h (Ax lo) σ H) (hS : va_S (Ax lo) s.heap H locs) (hl : lv_has ls 9 [(4, .int (nI i)), (3, .ref (h.2.2 30 0)), (2, .ref (h.2.2 20 0)), (1, .ref (h.2.2 0 0)), (0, .ref b)])
    {k bv : Int32} {σ1 σ2 : Sg} (hP1 : FL_count h.1 h.2.1 σ (xs (i + 1)) = some (k, σ1)) (hP2 : FX5_count h.1 h.2.1 σ1 (xs (i + 1)) = some (bv, σ2)) (hT : σ2.1 20 0 0 = k) (hV : k = 0 → σ2.2 30 0 0 = bv.toInt64) (kk : ∀ (H1 : Heap) (locs1 : List Loc) (ls1 : Array Slot), FW g h (Ax lo) σ2 H1 → va_S (Ax lo) s.heap H1 locs1 → lv_has ls1 9 [(4, .int (nI i)), (3, .ref (h.2.2 30 0)), (2, .ref (h.2.2 20 0)), (1, .ref (h.2.2 0 0)), (0, .ref b)] → W p l e room_1 s m args below meth c H1 locs1 (cells + 300) (slots + 1100) Q (F0 m 1487 ls1 [])) : W p l e room_1 s m args below meth c H locs cells slots Q (F0 m 1170 ls []) := by
  have hx := C0.1
  have hb := C0.2.1
  have hP3 : FX5_thrown h.1 h.2.1 σ2 = some (k, σ2) := by rw [← hT]; rfl
  refine lv_aload_n hx hb dL_law_1170 rfl (lv_at hl 3 rfl) ?_
  refine lv_aload_n hx hb dL_law_1171 rfl (lv_at hl 4 rfl) ?_
  refine lv_iload hx hb dL_law_1172 (lv_at hl 0 rfl) ?_
  refine lv_iconst (v := 1) hx hb dL_law_1174 (by decide) ?_
  refine lv_iadd hx hb dL_law_1175 ?_
  refine rdS C0 hX hbl hbA hS hi hL 1 (by decide) dL_law_1176 ?_
  refine lv_aload_n hx hb dL_law_1177 rfl (lv_at hl 1 rfl) ?_
  refine inI (runSW C0 hlo hK hZ hW hS (kL_count l hnt lo g h σ (xs (i + 1)) _ _ hP1) wCW_L_count wML_L_129 wST_L_count wIN_L hdsL_count ⟨(Nat.le_of_ble_eq_true rfl), (Nat.le_of_ble_eq_true rfl)⟩ rfl hl.1 rfl (Nat.le_of_ble_eq_true rfl) dL_law_1178 ⟨(by omega), (by omega)⟩) hS (fun H locs hW hS => ?_)
  have hl : lv_has ls 9 [(4, .int (nI i)), (3, .ref (h.2.2 30 0)), (2, .ref (h.2.2 20 0)), (1, .ref (h.2.2 0 0)), (0, .ref b)] := hl
  refine lv_istore (lv' := [(5, .int k), (4, .int (nI i)), (3, .ref (h.2.2 30 0)), (2, .ref (h.2.2 20 0)), (1, .ref (h.2.2 0 0)), (0, .ref b)]) hx hb dL_law_1181 hl (by decide) rfl (fun ls hl => ?_)
  refine lv_aload_n hx hb dL_law_1183 rfl (lv_at hl 3 rfl) ?_
  refine lv_aload_n hx hb dL_law_1184 rfl (lv_at hl 5 rfl) ?_
  refine lv_iload hx hb dL_law_1185 (lv_at hl 1 rfl) ?_
  refine lv_iconst (v := 1) hx hb dL_law_1187 (by decide) ?_
  refine lv_iadd hx hb dL_law_1188 ?_
  refine rdS C0 hX hbl hbA hS hi hL 1 (by decide) dL_law_1189 ?_
  refine inI (runV C0 hlo hK hZ hW hS (kX5_count l lo g h _ (xs (i + 1)) _ _ hP2) wCO_X5_count wML_L_131 wIM_X5_count wSE_X5_X5_count wIN_X5 hdX5_count ⟨(Nat.le_of_ble_eq_true rfl), (Nat.le_of_ble_eq_true rfl)⟩ (recvK hK hW (al20 h 20 (by decide)) (ct20 0) rfl) rfl hl.1 rfl (Nat.le_of_ble_eq_true rfl) dL_law_1190 ⟨(by omega), (by omega)⟩) hS (fun H locs hW hS => ?_)
  refine lv_istore (lv' := [(6, .int bv), (5, .int k), (4, .int (nI i)), (3, .ref (h.2.2 30 0)), (2, .ref (h.2.2 20 0)), (1, .ref (h.2.2 0 0)), (0, .ref b)]) hx hb dL_law_1193 hl (by decide) rfl (fun ls hl => ?_)
  refine lv_aload_n hx hb dL_law_1195 rfl (lv_at hl 4 rfl) ?_
  refine inI (runV C0 hlo hK hZ hW hS (kX5_thrown l lo g h _  _ _ hP3) wCO_X5_thrown wML_L_83 wIM_X5_thrown wSE_X5_X5_thrown wIN_X5 hdX5_thrown ⟨(Nat.le_of_ble_eq_true rfl), (Nat.le_of_ble_eq_true rfl)⟩ (recvK hK hW (al20 h 20 (by decide)) (ct20 0) rfl) rfl hl.1 rfl (Nat.le_of_ble_eq_true rfl) dL_law_1196 ⟨(by omega), (by omega)⟩) hS (fun H locs hW hS => ?_)
  refine lv_iload hx hb dL_law_1199 (lv_at hl 1 rfl) ?_
  refine lv_icmp_eq (tgt := 1206) hx hb dL_law_1201 (by decide) (fun _ => ?_) (fun q => absurd rfl q)
  refine lv_iload hx hb dL_law_1206 (lv_at hl 1 rfl) ?_
  refine lv_if_ne (tgt := 1223) hx hb dL_law_1208 (by decide) (fun ck => ?_) (fun ck => ?_)
  · skip
    refine lv_goto (tgt := 1487) hx hb dL_law_1223 (by decide) ?_
    refine W.widen (k := cells + 300) (n := slots + 1100) (by omega) (by omega) ?_
    exact kk _ _ _ hW hS (lv_sub hl [2, 3, 4, 5, 6] rfl)
  · have hV1 := hV ck
    refine lv_aload_n hx hb dL_law_1211 rfl (lv_at hl 3 rfl) ?_
    refine lv_iconst (v := 0) hx hb dL_law_1212 (by decide) ?_
    refine lld (h := h) C0 hK hW (show vp_in 0 1 by unfold vp_in; decide) dL_law_1213 ?_
    have hV2 : σ2.2 30 0 (0 : Int32).toNatClampNeg = _ := hV1
    rw [hV2]
    refine lv_iload hx hb dL_law_1214 (lv_at hl 0 rfl) ?_
    refine lv_i2l hx hb dL_law_1216 rfl ?_
    refine W.lcmp hx hb dL_law_1217 ?_
    rw [lg_cmp_self]
    refine lv_if_eq (tgt := 1223) hx hb dL_law_1218 (by decide) (fun _ => ?_) (fun q => absurd rfl q)
    refine lv_goto (tgt := 1487) hx hb dL_law_1223 (by decide) ?_
    refine W.widen (k := cells + 300) (n := slots + 1100) (by omega) (by omega) ?_
    exact kk _ _ _ hW hS (lv_sub hl [2, 3, 4, 5, 6] rfl)
set_option maxHeartbeats 4000000 in
theorem sL_sung {p : Program} {l : Launch} {e : Env} {s : State} {m : MethodId} {args : Array Value} {below : List Frame} {meth : Method} {c : Code} {H : Heap} {locs : List Loc} {cells slots : Nat} {Q : State → Prop} {lo b L i : Nat} {xs : Nat → Int32} {g : Gx} {h : Sh} {σ : Sg} {ls : Array Slot} (C0 : CallFix p m c cL_law 9 s args wB RL) (hnt : l.stackTraces = false) (hlo : lo ≤ s.heap.size) (hK : KW g s) (hZ : ZW lo s s.heap) (hX : va_X b L xs s s.heap) (hbl : b < s.heap.size) (hbA : ¬ Ax lo b) (hi : i + 6 ≤ L) (hL : L ≤ 3072) (hcl : cells + 300 ≤ room_1.cells) (hsl : slots + 1100 ≤ room_1.slots) (hW : FW g h (Ax lo) σ H) (hS : va_S (Ax lo) s.heap H locs) (hl : lv_has ls 9 [(4, .int (nI i)), (3, .ref (h.2.2 30 0)), (2, .ref (h.2.2 20 0)), (1, .ref (h.2.2 0 0)), (0, .ref b)])
    {k bv : Int32} {σ1 σ2 : Sg} (hP1 : FL_sung h.1 h.2.1 σ (xs (i + 1)) (xs (i + 2)) = some (k, σ1)) (hP2 : FX5_sung h.1 h.2.1 σ1 (xs (i + 1)) (xs (i + 2)) = some (bv, σ2)) (hT : σ2.1 20 0 0 = k) (hV : k = 0 → σ2.2 30 0 0 = bv.toInt64) (kk : ∀ (H1 : Heap) (locs1 : List Loc) (ls1 : Array Slot), FW g h (Ax lo) σ2 H1 → va_S (Ax lo) s.heap H1 locs1 → lv_has ls1 9 [(4, .int (nI i)), (3, .ref (h.2.2 30 0)), (2, .ref (h.2.2 20 0)), (1, .ref (h.2.2 0 0)), (0, .ref b)] → W p l e room_1 s m args below meth c H1 locs1 (cells + 300) (slots + 1100) Q (F0 m 1487 ls1 [])) : W p l e room_1 s m args below meth c H locs cells slots Q (F0 m 1226 ls []) := by
  have hx := C0.1
  have hb := C0.2.1
  have hP3 : FX5_thrown h.1 h.2.1 σ2 = some (k, σ2) := by rw [← hT]; rfl
  refine lv_aload_n hx hb dL_law_1226 rfl (lv_at hl 3 rfl) ?_
  refine lv_aload_n hx hb dL_law_1227 rfl (lv_at hl 4 rfl) ?_
  refine lv_iload hx hb dL_law_1228 (lv_at hl 0 rfl) ?_
  refine lv_iconst (v := 1) hx hb dL_law_1230 (by decide) ?_
  refine lv_iadd hx hb dL_law_1231 ?_
  refine rdS C0 hX hbl hbA hS hi hL 1 (by decide) dL_law_1232 ?_
  refine lv_aload_n hx hb dL_law_1233 rfl (lv_at hl 4 rfl) ?_
  refine lv_iload hx hb dL_law_1234 (lv_at hl 0 rfl) ?_
  refine lv_iconst (v := 2) hx hb dL_law_1236 (by decide) ?_
  refine lv_iadd hx hb dL_law_1237 ?_
  refine rdS C0 hX hbl hbA hS hi hL 2 (by decide) dL_law_1238 ?_
  refine lv_aload_n hx hb dL_law_1239 rfl (lv_at hl 1 rfl) ?_
  refine inI (runSW C0 hlo hK hZ hW hS (kL_sung l hnt lo g h σ (xs (i + 1)) (xs (i + 2)) _ _ hP1) wCW_L_sung wML_L_132 wST_L_sung wIN_L hdsL_sung ⟨(Nat.le_of_ble_eq_true rfl), (Nat.le_of_ble_eq_true rfl)⟩ rfl hl.1 rfl (Nat.le_of_ble_eq_true rfl) dL_law_1240 ⟨(by omega), (by omega)⟩) hS (fun H locs hW hS => ?_)
  have hl : lv_has ls 9 [(4, .int (nI i)), (3, .ref (h.2.2 30 0)), (2, .ref (h.2.2 20 0)), (1, .ref (h.2.2 0 0)), (0, .ref b)] := hl
  refine lv_istore (lv' := [(5, .int k), (4, .int (nI i)), (3, .ref (h.2.2 30 0)), (2, .ref (h.2.2 20 0)), (1, .ref (h.2.2 0 0)), (0, .ref b)]) hx hb dL_law_1243 hl (by decide) rfl (fun ls hl => ?_)
  refine lv_aload_n hx hb dL_law_1245 rfl (lv_at hl 3 rfl) ?_
  refine lv_aload_n hx hb dL_law_1246 rfl (lv_at hl 5 rfl) ?_
  refine lv_iload hx hb dL_law_1247 (lv_at hl 1 rfl) ?_
  refine lv_iconst (v := 1) hx hb dL_law_1249 (by decide) ?_
  refine lv_iadd hx hb dL_law_1250 ?_
  refine rdS C0 hX hbl hbA hS hi hL 1 (by decide) dL_law_1251 ?_
  refine lv_aload_n hx hb dL_law_1252 rfl (lv_at hl 5 rfl) ?_
  refine lv_iload hx hb dL_law_1253 (lv_at hl 1 rfl) ?_
  refine lv_iconst (v := 2) hx hb dL_law_1255 (by decide) ?_
  refine lv_iadd hx hb dL_law_1256 ?_
  refine rdS C0 hX hbl hbA hS hi hL 2 (by decide) dL_law_1257 ?_
  refine inI (runV C0 hlo hK hZ hW hS (kX5_sung l lo g h _ (xs (i + 1)) (xs (i + 2)) _ _ hP2) wCO_X5_sung wML_L_134 wIM_X5_sung wSE_X5_X5_sung wIN_X5 hdX5_sung ⟨(Nat.le_of_ble_eq_true rfl), (Nat.le_of_ble_eq_true rfl)⟩ (recvK hK hW (al20 h 20 (by decide)) (ct20 0) rfl) rfl hl.1 rfl (Nat.le_of_ble_eq_true rfl) dL_law_1258 ⟨(by omega), (by omega)⟩) hS (fun H locs hW hS => ?_)
  refine lv_istore (lv' := [(6, .int bv), (5, .int k), (4, .int (nI i)), (3, .ref (h.2.2 30 0)), (2, .ref (h.2.2 20 0)), (1, .ref (h.2.2 0 0)), (0, .ref b)]) hx hb dL_law_1261 hl (by decide) rfl (fun ls hl => ?_)
  refine lv_aload_n hx hb dL_law_1263 rfl (lv_at hl 4 rfl) ?_
  refine inI (runV C0 hlo hK hZ hW hS (kX5_thrown l lo g h _  _ _ hP3) wCO_X5_thrown wML_L_83 wIM_X5_thrown wSE_X5_X5_thrown wIN_X5 hdX5_thrown ⟨(Nat.le_of_ble_eq_true rfl), (Nat.le_of_ble_eq_true rfl)⟩ (recvK hK hW (al20 h 20 (by decide)) (ct20 0) rfl) rfl hl.1 rfl (Nat.le_of_ble_eq_true rfl) dL_law_1264 ⟨(by omega), (by omega)⟩) hS (fun H locs hW hS => ?_)
  refine lv_iload hx hb dL_law_1267 (lv_at hl 1 rfl) ?_
  refine lv_icmp_eq (tgt := 1274) hx hb dL_law_1269 (by decide) (fun _ => ?_) (fun q => absurd rfl q)
  refine lv_iload hx hb dL_law_1274 (lv_at hl 1 rfl) ?_
  refine lv_if_ne (tgt := 1291) hx hb dL_law_1276 (by decide) (fun ck => ?_) (fun ck => ?_)
  · skip
    refine lv_goto (tgt := 1487) hx hb dL_law_1291 (by decide) ?_
    refine W.widen (k := cells + 300) (n := slots + 1100) (by omega) (by omega) ?_
    exact kk _ _ _ hW hS (lv_sub hl [2, 3, 4, 5, 6] rfl)
  · have hV1 := hV ck
    refine lv_aload_n hx hb dL_law_1279 rfl (lv_at hl 3 rfl) ?_
    refine lv_iconst (v := 0) hx hb dL_law_1280 (by decide) ?_
    refine lld (h := h) C0 hK hW (show vp_in 0 1 by unfold vp_in; decide) dL_law_1281 ?_
    have hV2 : σ2.2 30 0 (0 : Int32).toNatClampNeg = _ := hV1
    rw [hV2]
    refine lv_iload hx hb dL_law_1282 (lv_at hl 0 rfl) ?_
    refine lv_i2l hx hb dL_law_1284 rfl ?_
    refine W.lcmp hx hb dL_law_1285 ?_
    rw [lg_cmp_self]
    refine lv_if_eq (tgt := 1291) hx hb dL_law_1286 (by decide) (fun _ => ?_) (fun q => absurd rfl q)
    refine lv_goto (tgt := 1487) hx hb dL_law_1291 (by decide) ?_
    refine W.widen (k := cells + 300) (n := slots + 1100) (by omega) (by omega) ?_
    exact kk _ _ _ hW hS (lv_sub hl [2, 3, 4, 5, 6] rfl)
set_option maxHeartbeats 4000000 in
theorem sL_chord {p : Program} {l : Launch} {e : Env} {s : State} {m : MethodId} {args : Array Value} {below : List Frame} {meth : Method} {c : Code} {H : Heap} {locs : List Loc} {cells slots : Nat} {Q : State → Prop} {lo b L i : Nat} {xs : Nat → Int32} {g : Gx} {h : Sh} {σ : Sg} {ls : Array Slot} (C0 : CallFix p m c cL_law 9 s args wB RL) (hnt : l.stackTraces = false) (hlo : lo ≤ s.heap.size) (hK : KW g s) (hZ : ZW lo s s.heap) (hX : va_X b L xs s s.heap) (hbl : b < s.heap.size) (hbA : ¬ Ax lo b) (hi : i + 6 ≤ L) (hL : L ≤ 3072) (hcl : cells + 300 ≤ room_1.cells) (hsl : slots + 1100 ≤ room_1.slots) (hW : FW g h (Ax lo) σ H) (hS : va_S (Ax lo) s.heap H locs) (hl : lv_has ls 9 [(4, .int (nI i)), (3, .ref (h.2.2 30 0)), (2, .ref (h.2.2 20 0)), (1, .ref (h.2.2 0 0)), (0, .ref b)])
    {k bv : Int32} {σ1 σ2 : Sg} (hP1 : FL_chord h.1 h.2.1 σ (xs (i + 1)) = some (k, σ1)) (hP2 : FX5_chord h.1 h.2.1 σ1 (xs (i + 1)) = some (bv, σ2)) (hT : σ2.1 20 0 0 = k) (hV : k = 0 → σ2.2 30 0 0 = bv.toInt64) (kk : ∀ (H1 : Heap) (locs1 : List Loc) (ls1 : Array Slot), FW g h (Ax lo) σ2 H1 → va_S (Ax lo) s.heap H1 locs1 → lv_has ls1 9 [(4, .int (nI i)), (3, .ref (h.2.2 30 0)), (2, .ref (h.2.2 20 0)), (1, .ref (h.2.2 0 0)), (0, .ref b)] → W p l e room_1 s m args below meth c H1 locs1 (cells + 300) (slots + 1100) Q (F0 m 1487 ls1 [])) : W p l e room_1 s m args below meth c H locs cells slots Q (F0 m 1294 ls []) := by
  have hx := C0.1
  have hb := C0.2.1
  have hP3 : FX5_thrown h.1 h.2.1 σ2 = some (k, σ2) := by rw [← hT]; rfl
  refine lv_aload_n hx hb dL_law_1294 rfl (lv_at hl 3 rfl) ?_
  refine lv_aload_n hx hb dL_law_1295 rfl (lv_at hl 4 rfl) ?_
  refine lv_iload hx hb dL_law_1296 (lv_at hl 0 rfl) ?_
  refine lv_iconst (v := 1) hx hb dL_law_1298 (by decide) ?_
  refine lv_iadd hx hb dL_law_1299 ?_
  refine rdS C0 hX hbl hbA hS hi hL 1 (by decide) dL_law_1300 ?_
  refine lv_aload_n hx hb dL_law_1301 rfl (lv_at hl 1 rfl) ?_
  refine inI (runSW C0 hlo hK hZ hW hS (kL_chord l hnt lo g h σ (xs (i + 1)) _ _ hP1) wCW_L_chord wML_L_135 wST_L_chord wIN_L hdsL_chord ⟨(Nat.le_of_ble_eq_true rfl), (Nat.le_of_ble_eq_true rfl)⟩ rfl hl.1 rfl (Nat.le_of_ble_eq_true rfl) dL_law_1302 ⟨(by omega), (by omega)⟩) hS (fun H locs hW hS => ?_)
  have hl : lv_has ls 9 [(4, .int (nI i)), (3, .ref (h.2.2 30 0)), (2, .ref (h.2.2 20 0)), (1, .ref (h.2.2 0 0)), (0, .ref b)] := hl
  refine lv_istore (lv' := [(5, .int k), (4, .int (nI i)), (3, .ref (h.2.2 30 0)), (2, .ref (h.2.2 20 0)), (1, .ref (h.2.2 0 0)), (0, .ref b)]) hx hb dL_law_1305 hl (by decide) rfl (fun ls hl => ?_)
  refine lv_aload_n hx hb dL_law_1307 rfl (lv_at hl 3 rfl) ?_
  refine lv_aload_n hx hb dL_law_1308 rfl (lv_at hl 5 rfl) ?_
  refine lv_iload hx hb dL_law_1309 (lv_at hl 1 rfl) ?_
  refine lv_iconst (v := 1) hx hb dL_law_1311 (by decide) ?_
  refine lv_iadd hx hb dL_law_1312 ?_
  refine rdS C0 hX hbl hbA hS hi hL 1 (by decide) dL_law_1313 ?_
  refine inI (runV C0 hlo hK hZ hW hS (kX5_chord l lo g h _ (xs (i + 1)) _ _ hP2) wCO_X5_chord wML_L_137 wIM_X5_chord wSE_X5_X5_chord wIN_X5 hdX5_chord ⟨(Nat.le_of_ble_eq_true rfl), (Nat.le_of_ble_eq_true rfl)⟩ (recvK hK hW (al20 h 20 (by decide)) (ct20 0) rfl) rfl hl.1 rfl (Nat.le_of_ble_eq_true rfl) dL_law_1314 ⟨(by omega), (by omega)⟩) hS (fun H locs hW hS => ?_)
  refine lv_istore (lv' := [(6, .int bv), (5, .int k), (4, .int (nI i)), (3, .ref (h.2.2 30 0)), (2, .ref (h.2.2 20 0)), (1, .ref (h.2.2 0 0)), (0, .ref b)]) hx hb dL_law_1317 hl (by decide) rfl (fun ls hl => ?_)
  refine lv_aload_n hx hb dL_law_1319 rfl (lv_at hl 4 rfl) ?_
  refine inI (runV C0 hlo hK hZ hW hS (kX5_thrown l lo g h _  _ _ hP3) wCO_X5_thrown wML_L_83 wIM_X5_thrown wSE_X5_X5_thrown wIN_X5 hdX5_thrown ⟨(Nat.le_of_ble_eq_true rfl), (Nat.le_of_ble_eq_true rfl)⟩ (recvK hK hW (al20 h 20 (by decide)) (ct20 0) rfl) rfl hl.1 rfl (Nat.le_of_ble_eq_true rfl) dL_law_1320 ⟨(by omega), (by omega)⟩) hS (fun H locs hW hS => ?_)
  refine lv_iload hx hb dL_law_1323 (lv_at hl 1 rfl) ?_
  refine lv_icmp_eq (tgt := 1330) hx hb dL_law_1325 (by decide) (fun _ => ?_) (fun q => absurd rfl q)
  refine lv_iload hx hb dL_law_1330 (lv_at hl 1 rfl) ?_
  refine lv_if_ne (tgt := 1347) hx hb dL_law_1332 (by decide) (fun ck => ?_) (fun ck => ?_)
  · skip
    refine lv_goto (tgt := 1487) hx hb dL_law_1347 (by decide) ?_
    refine W.widen (k := cells + 300) (n := slots + 1100) (by omega) (by omega) ?_
    exact kk _ _ _ hW hS (lv_sub hl [2, 3, 4, 5, 6] rfl)
  · have hV1 := hV ck
    refine lv_aload_n hx hb dL_law_1335 rfl (lv_at hl 3 rfl) ?_
    refine lv_iconst (v := 0) hx hb dL_law_1336 (by decide) ?_
    refine lld (h := h) C0 hK hW (show vp_in 0 1 by unfold vp_in; decide) dL_law_1337 ?_
    have hV2 : σ2.2 30 0 (0 : Int32).toNatClampNeg = _ := hV1
    rw [hV2]
    refine lv_iload hx hb dL_law_1338 (lv_at hl 0 rfl) ?_
    refine lv_i2l hx hb dL_law_1340 rfl ?_
    refine W.lcmp hx hb dL_law_1341 ?_
    rw [lg_cmp_self]
    refine lv_if_eq (tgt := 1347) hx hb dL_law_1342 (by decide) (fun _ => ?_) (fun q => absurd rfl q)
    refine lv_goto (tgt := 1487) hx hb dL_law_1347 (by decide) ?_
    refine W.widen (k := cells + 300) (n := slots + 1100) (by omega) (by omega) ?_
    exact kk _ _ _ hW hS (lv_sub hl [2, 3, 4, 5, 6] rfl)
set_option maxHeartbeats 4000000 in
theorem sL_longest {p : Program} {l : Launch} {e : Env} {s : State} {m : MethodId} {args : Array Value} {below : List Frame} {meth : Method} {c : Code} {H : Heap} {locs : List Loc} {cells slots : Nat} {Q : State → Prop} {lo b L i : Nat} {xs : Nat → Int32} {g : Gx} {h : Sh} {σ : Sg} {ls : Array Slot} (C0 : CallFix p m c cL_law 9 s args wB RL) (hnt : l.stackTraces = false) (hlo : lo ≤ s.heap.size) (hK : KW g s) (hZ : ZW lo s s.heap) (hX : va_X b L xs s s.heap) (hbl : b < s.heap.size) (hbA : ¬ Ax lo b) (hi : i + 6 ≤ L) (hL : L ≤ 3072) (hcl : cells + 300 ≤ room_1.cells) (hsl : slots + 1100 ≤ room_1.slots) (hW : FW g h (Ax lo) σ H) (hS : va_S (Ax lo) s.heap H locs) (hl : lv_has ls 9 [(4, .int (nI i)), (3, .ref (h.2.2 30 0)), (2, .ref (h.2.2 20 0)), (1, .ref (h.2.2 0 0)), (0, .ref b)])
    {r : Int32} {σ1 σ2 : Sg} (hP1 : FX4_longest h.1 h.2.1 σ = some (r, σ1)) (hP2 : FX5_longest h.1 h.2.1 σ1 = some (r, σ2)) (kk : ∀ (H1 : Heap) (locs1 : List Loc) (ls1 : Array Slot), FW g h (Ax lo) σ2 H1 → va_S (Ax lo) s.heap H1 locs1 → lv_has ls1 9 [(4, .int (nI i)), (3, .ref (h.2.2 30 0)), (2, .ref (h.2.2 20 0)), (1, .ref (h.2.2 0 0)), (0, .ref b)] → W p l e room_1 s m args below meth c H1 locs1 (cells + 300) (slots + 1100) Q (F0 m 1487 ls1 [])) : W p l e room_1 s m args below meth c H locs cells slots Q (F0 m 1350 ls []) := by
  have hx := C0.1
  have hb := C0.2.1
  refine lv_aload_n hx hb dL_law_1350 rfl (lv_at hl 3 rfl) ?_
  refine inI (runV C0 hlo hK hZ hW hS (kX4_longest l lo g h _  _ _ hP1) wCO_X4_longest wML_L_138 wIM_X4_longest wSE_X4_X4_longest wIN_X4 hdX4_longest ⟨(Nat.le_of_ble_eq_true rfl), (Nat.le_of_ble_eq_true rfl)⟩ (recvK hK hW (al0 h 0 (by decide)) (ct0 0) rfl) rfl hl.1 rfl (Nat.le_of_ble_eq_true rfl) dL_law_1351 ⟨(by omega), (by omega)⟩) hS (fun H locs hW hS => ?_)
  refine lv_aload_n hx hb dL_law_1354 rfl (lv_at hl 2 rfl) ?_
  refine inI (runV C0 hlo hK hZ hW hS (kX5_longest l lo g h _  _ _ hP2) wCO_X5_longest wML_L_141 wIM_X5_longest wSE_X5_X5_longest wIN_X5 hdX5_longest ⟨(Nat.le_of_ble_eq_true rfl), (Nat.le_of_ble_eq_true rfl)⟩ (recvK hK hW (al20 h 20 (by decide)) (ct20 0) rfl) rfl hl.1 rfl (Nat.le_of_ble_eq_true rfl) dL_law_1355 ⟨(by omega), (by omega)⟩) hS (fun H locs hW hS => ?_)
  refine lv_icmp_eq (tgt := 1487) hx hb dL_law_1358 (by decide) (fun _ => ?_) (fun q => absurd rfl q)
  refine W.widen (k := cells + 300) (n := slots + 1100) (by omega) (by omega) ?_
  exact kk _ _ _ hW hS (lv_sub hl [0, 1, 2, 3, 4] rfl)
set_option maxHeartbeats 4000000 in
theorem sL_emptySongs {p : Program} {l : Launch} {e : Env} {s : State} {m : MethodId} {args : Array Value} {below : List Frame} {meth : Method} {c : Code} {H : Heap} {locs : List Loc} {cells slots : Nat} {Q : State → Prop} {lo b L i : Nat} {xs : Nat → Int32} {g : Gx} {h : Sh} {σ : Sg} {ls : Array Slot} (C0 : CallFix p m c cL_law 9 s args wB RL) (hnt : l.stackTraces = false) (hlo : lo ≤ s.heap.size) (hK : KW g s) (hZ : ZW lo s s.heap) (hX : va_X b L xs s s.heap) (hbl : b < s.heap.size) (hbA : ¬ Ax lo b) (hi : i + 6 ≤ L) (hL : L ≤ 3072) (hcl : cells + 300 ≤ room_1.cells) (hsl : slots + 1100 ≤ room_1.slots) (hW : FW g h (Ax lo) σ H) (hS : va_S (Ax lo) s.heap H locs) (hl : lv_has ls 9 [(4, .int (nI i)), (3, .ref (h.2.2 30 0)), (2, .ref (h.2.2 20 0)), (1, .ref (h.2.2 0 0)), (0, .ref b)])
    {r : Int32} {σ1 σ2 : Sg} (hP1 : FX4_emptySongs h.1 h.2.1 σ = some (r, σ1)) (hP2 : FX5_emptySongs h.1 h.2.1 σ1 = some (r, σ2)) (kk : ∀ (H1 : Heap) (locs1 : List Loc) (ls1 : Array Slot), FW g h (Ax lo) σ2 H1 → va_S (Ax lo) s.heap H1 locs1 → lv_has ls1 9 [(4, .int (nI i)), (3, .ref (h.2.2 30 0)), (2, .ref (h.2.2 20 0)), (1, .ref (h.2.2 0 0)), (0, .ref b)] → W p l e room_1 s m args below meth c H1 locs1 (cells + 300) (slots + 1100) Q (F0 m 1487 ls1 [])) : W p l e room_1 s m args below meth c H locs cells slots Q (F0 m 1363 ls []) := by
  have hx := C0.1
  have hb := C0.2.1
  refine lv_aload_n hx hb dL_law_1363 rfl (lv_at hl 3 rfl) ?_
  refine inI (runV C0 hlo hK hZ hW hS (kX4_emptySongs l lo g h _  _ _ hP1) wCO_X4_emptySongs wML_L_142 wIM_X4_emptySongs wSE_X4_X4_emptySongs wIN_X4 hdX4_emptySongs ⟨(Nat.le_of_ble_eq_true rfl), (Nat.le_of_ble_eq_true rfl)⟩ (recvK hK hW (al0 h 0 (by decide)) (ct0 0) rfl) rfl hl.1 rfl (Nat.le_of_ble_eq_true rfl) dL_law_1364 ⟨(by omega), (by omega)⟩) hS (fun H locs hW hS => ?_)
  refine lv_aload_n hx hb dL_law_1367 rfl (lv_at hl 2 rfl) ?_
  refine inI (runV C0 hlo hK hZ hW hS (kX5_emptySongs l lo g h _  _ _ hP2) wCO_X5_emptySongs wML_L_145 wIM_X5_emptySongs wSE_X5_X5_emptySongs wIN_X5 hdX5_emptySongs ⟨(Nat.le_of_ble_eq_true rfl), (Nat.le_of_ble_eq_true rfl)⟩ (recvK hK hW (al20 h 20 (by decide)) (ct20 0) rfl) rfl hl.1 rfl (Nat.le_of_ble_eq_true rfl) dL_law_1368 ⟨(by omega), (by omega)⟩) hS (fun H locs hW hS => ?_)
  refine lv_icmp_eq (tgt := 1487) hx hb dL_law_1371 (by decide) (fun _ => ?_) (fun q => absurd rfl q)
  refine W.widen (k := cells + 300) (n := slots + 1100) (by omega) (by omega) ?_
  exact kk _ _ _ hW hS (lv_sub hl [0, 1, 2, 3, 4] rfl)
set_option maxHeartbeats 4000000 in
theorem sL_runsDown {p : Program} {l : Launch} {e : Env} {s : State} {m : MethodId} {args : Array Value} {below : List Frame} {meth : Method} {c : Code} {H : Heap} {locs : List Loc} {cells slots : Nat} {Q : State → Prop} {lo b L i : Nat} {xs : Nat → Int32} {g : Gx} {h : Sh} {σ : Sg} {ls : Array Slot} (C0 : CallFix p m c cL_law 9 s args wB RL) (hnt : l.stackTraces = false) (hlo : lo ≤ s.heap.size) (hK : KW g s) (hZ : ZW lo s s.heap) (hX : va_X b L xs s s.heap) (hbl : b < s.heap.size) (hbA : ¬ Ax lo b) (hi : i + 6 ≤ L) (hL : L ≤ 3072) (hcl : cells + 300 ≤ room_1.cells) (hsl : slots + 1100 ≤ room_1.slots) (hW : FW g h (Ax lo) σ H) (hS : va_S (Ax lo) s.heap H locs) (hl : lv_has ls 9 [(4, .int (nI i)), (3, .ref (h.2.2 30 0)), (2, .ref (h.2.2 20 0)), (1, .ref (h.2.2 0 0)), (0, .ref b)])
    {k bv : Int32} {σ1 σ2 : Sg} (hP1 : FL_runsDown h.1 h.2.1 σ (xs (i + 1)) = some (k, σ1)) (hP2 : FX5_runsDown h.1 h.2.1 σ1 (xs (i + 1)) = some (bv, σ2)) (hT : σ2.1 20 0 0 = k) (hV : k = 0 → σ2.2 30 0 0 = bv.toInt64) (hkN : kN σ2 ≤ 250) (kk : ∀ (H1 : Heap) (locs1 : List Loc) (ls1 : Array Slot), FW g h (Ax lo) σ2 H1 → va_S (Ax lo) s.heap H1 locs1 → lv_has ls1 9 [(4, .int (nI i)), (3, .ref (h.2.2 30 0)), (2, .ref (h.2.2 20 0)), (1, .ref (h.2.2 0 0)), (0, .ref b)] → W p l e room_1 s m args below meth c H1 locs1 (cells + 300) (slots + 1100) Q (F0 m 1487 ls1 [])) : W p l e room_1 s m args below meth c H locs cells slots Q (F0 m 1376 ls []) := by
  have hx := C0.1
  have hb := C0.2.1
  have hP3 : FX5_thrown h.1 h.2.1 σ2 = some (k, σ2) := by rw [← hT]; rfl
  refine lv_aload_n hx hb dL_law_1376 rfl (lv_at hl 3 rfl) ?_
  refine lv_aload_n hx hb dL_law_1377 rfl (lv_at hl 4 rfl) ?_
  refine lv_iload hx hb dL_law_1378 (lv_at hl 0 rfl) ?_
  refine lv_iconst (v := 1) hx hb dL_law_1380 (by decide) ?_
  refine lv_iadd hx hb dL_law_1381 ?_
  refine rdS C0 hX hbl hbA hS hi hL 1 (by decide) dL_law_1382 ?_
  refine lv_aload_n hx hb dL_law_1383 rfl (lv_at hl 1 rfl) ?_
  refine inI (runSW C0 hlo hK hZ hW hS (kL_runsDown l hnt lo g h σ (xs (i + 1)) _ _ hP1) wCW_L_runsDown wML_L_146 wST_L_runsDown wIN_L hdsL_runsDown ⟨(Nat.le_of_ble_eq_true rfl), (Nat.le_of_ble_eq_true rfl)⟩ rfl hl.1 rfl (Nat.le_of_ble_eq_true rfl) dL_law_1384 ⟨(by omega), (by omega)⟩) hS (fun H locs hW hS => ?_)
  have hl : lv_has ls 9 [(4, .int (nI i)), (3, .ref (h.2.2 30 0)), (2, .ref (h.2.2 20 0)), (1, .ref (h.2.2 0 0)), (0, .ref b)] := hl
  refine lv_istore (lv' := [(5, .int k), (4, .int (nI i)), (3, .ref (h.2.2 30 0)), (2, .ref (h.2.2 20 0)), (1, .ref (h.2.2 0 0)), (0, .ref b)]) hx hb dL_law_1387 hl (by decide) rfl (fun ls hl => ?_)
  refine lv_aload_n hx hb dL_law_1389 rfl (lv_at hl 3 rfl) ?_
  refine lv_aload_n hx hb dL_law_1390 rfl (lv_at hl 5 rfl) ?_
  refine lv_iload hx hb dL_law_1391 (lv_at hl 1 rfl) ?_
  refine lv_iconst (v := 1) hx hb dL_law_1393 (by decide) ?_
  refine lv_iadd hx hb dL_law_1394 ?_
  refine rdS C0 hX hbl hbA hS hi hL 1 (by decide) dL_law_1395 ?_
  refine inI (runV C0 hlo hK hZ hW hS (kX5_runsDown l lo g h _ (xs (i + 1)) _ _ hP2) wCO_X5_runsDown wML_L_148 wIM_X5_runsDown wSE_X5_X5_runsDown wIN_X5 hdX5_runsDown ⟨(Nat.le_of_ble_eq_true rfl), (Nat.le_of_ble_eq_true rfl)⟩ (recvK hK hW (al20 h 20 (by decide)) (ct20 0) rfl) rfl hl.1 rfl (Nat.le_of_ble_eq_true rfl) dL_law_1396 ⟨(by omega), (by omega)⟩) hS (fun H locs hW hS => ?_)
  refine lv_istore (lv' := [(6, .int bv), (5, .int k), (4, .int (nI i)), (3, .ref (h.2.2 30 0)), (2, .ref (h.2.2 20 0)), (1, .ref (h.2.2 0 0)), (0, .ref b)]) hx hb dL_law_1399 hl (by decide) rfl (fun ls hl => ?_)
  refine lv_aload_n hx hb dL_law_1401 rfl (lv_at hl 4 rfl) ?_
  refine inI (runV C0 hlo hK hZ hW hS (kX5_thrown l lo g h _  _ _ hP3) wCO_X5_thrown wML_L_83 wIM_X5_thrown wSE_X5_X5_thrown wIN_X5 hdX5_thrown ⟨(Nat.le_of_ble_eq_true rfl), (Nat.le_of_ble_eq_true rfl)⟩ (recvK hK hW (al20 h 20 (by decide)) (ct20 0) rfl) rfl hl.1 rfl (Nat.le_of_ble_eq_true rfl) dL_law_1402 ⟨(by omega), (by omega)⟩) hS (fun H locs hW hS => ?_)
  refine lv_iload hx hb dL_law_1405 (lv_at hl 1 rfl) ?_
  refine lv_icmp_eq (tgt := 1412) hx hb dL_law_1407 (by decide) (fun _ => ?_) (fun q => absurd rfl q)
  refine lv_iload hx hb dL_law_1412 (lv_at hl 1 rfl) ?_
  refine lv_if_ne (tgt := 1429) hx hb dL_law_1414 (by decide) (fun ck => ?_) (fun ck => ?_)
  · skip
    refine lv_goto (tgt := 1487) hx hb dL_law_1429 (by decide) ?_
    refine W.widen (k := cells + 300) (n := slots + 1100) (by omega) (by omega) ?_
    exact kk _ _ _ hW hS (lv_sub hl [2, 3, 4, 5, 6] rfl)
  · have hV1 := hV ck
    refine lv_aload_n hx hb dL_law_1417 rfl (lv_at hl 3 rfl) ?_
    refine lv_iconst (v := 0) hx hb dL_law_1418 (by decide) ?_
    refine lld (h := h) C0 hK hW (show vp_in 0 1 by unfold vp_in; decide) dL_law_1419 ?_
    have hV2 : σ2.2 30 0 (0 : Int32).toNatClampNeg = _ := hV1
    rw [hV2]
    refine lv_iload hx hb dL_law_1420 (lv_at hl 0 rfl) ?_
    refine lv_i2l hx hb dL_law_1422 rfl ?_
    refine W.lcmp hx hb dL_law_1423 ?_
    rw [lg_cmp_self]
    refine lv_if_eq (tgt := 1429) hx hb dL_law_1424 (by decide) (fun _ => ?_) (fun q => absurd rfl q)
    refine lv_goto (tgt := 1487) hx hb dL_law_1429 (by decide) ?_
    refine W.widen (k := cells + 300) (n := slots + 1100) (by omega) (by omega) ?_
    exact kk _ _ _ hW hS (lv_sub hl [2, 3, 4, 5, 6] rfl)
set_option maxHeartbeats 4000000 in
theorem sL_digest {p : Program} {l : Launch} {e : Env} {s : State} {m : MethodId} {args : Array Value} {below : List Frame} {meth : Method} {c : Code} {H : Heap} {locs : List Loc} {cells slots : Nat} {Q : State → Prop} {lo b L i : Nat} {xs : Nat → Int32} {g : Gx} {h : Sh} {σ : Sg} {ls : Array Slot} (C0 : CallFix p m c cL_law 9 s args wB RL) (hnt : l.stackTraces = false) (hlo : lo ≤ s.heap.size) (hK : KW g s) (hZ : ZW lo s s.heap) (hX : va_X b L xs s s.heap) (hbl : b < s.heap.size) (hbA : ¬ Ax lo b) (hi : i + 6 ≤ L) (hL : L ≤ 3072) (hcl : cells + 300 ≤ room_1.cells) (hsl : slots + 1100 ≤ room_1.slots) (hW : FW g h (Ax lo) σ H) (hS : va_S (Ax lo) s.heap H locs) (hl : lv_has ls 9 [(4, .int (nI i)), (3, .ref (h.2.2 30 0)), (2, .ref (h.2.2 20 0)), (1, .ref (h.2.2 0 0)), (0, .ref b)])
    {r : Int64} {σ1 σ2 : Sg} (hP1 : FX4_digest h.1 h.2.1 σ = some (r, σ1)) (hP2 : FX5_digest h.1 h.2.1 σ1 = some (r, σ2)) (kk : ∀ (H1 : Heap) (locs1 : List Loc) (ls1 : Array Slot), FW g h (Ax lo) σ2 H1 → va_S (Ax lo) s.heap H1 locs1 → lv_has ls1 9 [(4, .int (nI i)), (3, .ref (h.2.2 30 0)), (2, .ref (h.2.2 20 0)), (1, .ref (h.2.2 0 0)), (0, .ref b)] → W p l e room_1 s m args below meth c H1 locs1 (cells + 300) (slots + 1100) Q (F0 m 1487 ls1 [])) : W p l e room_1 s m args below meth c H locs cells slots Q (F0 m 1473 ls []) := by
  have hx := C0.1
  have hb := C0.2.1
  refine lv_aload_n hx hb dL_law_1473 rfl (lv_at hl 3 rfl) ?_
  refine inL (runV C0 hlo hK hZ hW hS (kX4_digest l lo g h _  _ _ hP1) wCO_X4_digest wML_L_154 wIM_X4_digest wSE_X4_X4_digest wIN_X4 hdX4_digest ⟨(Nat.le_of_ble_eq_true rfl), (Nat.le_of_ble_eq_true rfl)⟩ (recvK hK hW (al0 h 0 (by decide)) (ct0 0) rfl) rfl hl.1 rfl (Nat.le_of_ble_eq_true rfl) dL_law_1474 ⟨(by omega), (by omega)⟩) hS (fun H locs hW hS => ?_)
  refine lv_aload_n hx hb dL_law_1477 rfl (lv_at hl 2 rfl) ?_
  refine inL (runV C0 hlo hK hZ hW hS (kX5_digest l lo g h _  _ _ hP2) wCO_X5_digest wML_L_158 wIM_X5_digest wSE_X5_X5_digest wIN_X5 hdX5_digest ⟨(Nat.le_of_ble_eq_true rfl), (Nat.le_of_ble_eq_true rfl)⟩ (recvK hK hW (al20 h 20 (by decide)) (ct20 0) rfl) rfl hl.1 rfl (Nat.le_of_ble_eq_true rfl) dL_law_1478 ⟨(by omega), (by omega)⟩) hS (fun H locs hW hS => ?_)
  refine W.lcmp hx hb dL_law_1481 ?_
  rw [lg_cmp_self]
  refine lv_if_eq (tgt := 1487) hx hb dL_law_1482 (by decide) (fun _ => ?_) (fun q => absurd rfl q)
  refine W.widen (k := cells + 300) (n := slots + 1100) (by omega) (by omega) ?_
  exact kk _ _ _ hW hS (lv_sub hl [0, 1, 2, 3, 4] rfl)
