/-! THE LAW, FROM ITS ENTRY -/
set_option maxHeartbeats 8000000 in
set_option maxRecDepth 100000 in
theorem law_walk {p : Program} {l : Launch} {e : Env} {s : State} {m : MethodId} {args : Array Value} {below : List Frame} {meth : Method} {c : Code} {Q : State → Prop} {b L : Nat} {xs : Nat → Int32} {g : Gx} (C0 : CallFix p m c cL_law 26 s args wB RL) (hK : KW g s) (hX : va_X b L xs s s.heap) (hbl : b < s.heap.size) (hL : L ≤ 260)
    (kend : ∀ (H : Heap) (locs : List Loc) (ls : Array Slot), va_S (Ax s.heap.size) s.heap H locs → W p l e room_1 s m args below meth c H locs 600 8000 Q (F0 m 981 ls [.int 1]))
    {ls : Array Slot} (hl : lv_has ls 26 [(0, .ref b)]) : W p l e room_1 s m args below meth c s.heap [] 0 0 Q (F0 m 0 ls []) := by
  have hx := C0.1
  have hb := C0.2.1
  have hlo : s.heap.size ≤ s.heap.size := Nat.le_refl _
  have hRf : 8 ≤ room_1.frames := Nat.le_of_ble_eq_true rfl
  have hRl : 250 ≤ room_1.locals := Nat.le_of_ble_eq_true rfl
  have hA : ∀ q : Nat, s.heap.size ≤ q → Ax s.heap.size q := fun _ h => h
  have hS : va_S (Ax s.heap.size) s.heap s.heap [] := va_S.rf
  have hP : va_P g.1 vwCl [] s.heap := fun k q h => by simp at h
  have hD : va_D (Ax s.heap.size) [] := ⟨fun i j p q h => by simp at h, fun k q h => by simp at h⟩
  refine va_new (ci := 4) (fs := [.null, .null, .null, .int 0, .int 0, .int 0, .int 0]) (C := RX4) (T := TX4) (N := 7) hx hb C0.2.2.2.2 inX4_B tyX4 tyX4_ok C0.2.2.2.1 (C0.2.2.2.2 _ wCL_L_23) (C0.2.2.2.2 _ wIS_X4) (C0.2.2.2.2 _ wIN_X4) hK.1 hP hD hS hA rfl (fun j hj => by rcases (show j = 0 ∨ j = 1 ∨ j = 2 ∨ j = 3 ∨ j = 4 ∨ j = 5 ∨ j = 6 by omega) with rfl | rfl | rfl | rfl | rfl | rfl | rfl <;> rfl) (Nat.le_of_ble_eq_true rfl) (Nat.le_of_ble_eq_true rfl) dL_law_0 (fun q0 H hP hD hS => ?_)
  have hP : va_P g.1 vwCl [(q0, .inr (4, [.null, .null, .null, .int 0, .int 0, .int 0, .int 0]))] H := hP
  have hD : va_D (Ax s.heap.size) [(q0, .inr (4, [.null, .null, .null, .int 0, .int 0, .int 0, .int 0]))] := hD
  refine lv_dup hx hb dL_law_3 rfl ?_
  have hFc := va_free (wc := [(q0, .inr (4, [.null, .null, .null, .int 0, .int 0, .int 0, .int 0]))]) hD hS hA [0] rfl
  refine va_callv (va_runI (As := []) (rest := [.ref q0]) C0 (kX4_init l g q0 H.size) (cwI 0 C0.2.2.2.2 (ws_good wCO_X4_init) rfl rfl rfl (C0.2.2.2.2 _ wIN_X4) (C0.2.2.2.2 _ wML_L_96) (C0.2.2.2.2 _ wIM_X4_init) rfl hdiX4_init ⟨Nat.le_of_ble_eq_true rfl, Nat.le_of_ble_eq_true rfl⟩) ⟨WL.blind, fun U hU hW => ⟨rfl, by rw [hU], by rw [hU]; exact hP, hD.weaken (fun _ _ _ _ => trivial), hK.warm hW⟩⟩ rfl rfl hl.1 rfl (lv_room (Nat.le_of_ble_eq_true rfl)) dL_law_4 ⟨Nat.le_of_ble_eq_true rfl, Nat.le_of_ble_eq_true rfl⟩) hS (fun q _ z => hFc q z) hFc (fun u t H1 locs ht hvm hw hB hz1 hk1 hS => ?_)
  obtain ⟨hP1, hD1⟩ := hB
  subst ht
  obtain ⟨hP, hD⟩ := va_join (wr := []) hP hD [0] [] rfl rfl (by decide) (by decide) hk1 hFc hP1 hD1
  have hP : va_P g.1 vwCl [(q0, .inr (4, [.ref (u 0), .ref (u 1), .ref (u 2), .int 0, .int 0, .int 0, .int 0])), ((u 0), .inl (g.2.1.2.2.2.1, 4, .inr (.inr (.inr (.inr (fun _ => none)))))), ((u 1), .inl (g.2.1.2.2.2.2.1, 8, .inr (.inr (.inr (.inr (fun _ => none)))))), ((u 2), .inr (2, [.ref (u 3), .int 0, .int 0, .int 0, .int 0])), ((u 3), .inl (g.2.1.1, 1000, .inl (fun _ => 0)))] t.heap := hP
  have hD : va_D (Ax s.heap.size) [(q0, .inr (4, [.ref (u 0), .ref (u 1), .ref (u 2), .int 0, .int 0, .int 0, .int 0])), ((u 0), .inl (g.2.1.2.2.2.1, 4, .inr (.inr (.inr (.inr (fun _ => none)))))), ((u 1), .inl (g.2.1.2.2.2.2.1, 8, .inr (.inr (.inr (.inr (fun _ => none)))))), ((u 2), .inr (2, [.ref (u 3), .int 0, .int 0, .int 0, .int 0])), ((u 3), .inl (g.2.1.1, 1000, .inl (fun _ => 0)))] := hD
  generalize t.heap = H at hP hS ⊢
  refine lv_astore_n (lv' := [(1, .ref q0), (0, .ref b)]) hx hb dL_law_7 rfl hl (by decide) rfl (fun ls hl => ?_)
  obtain ⟨h, hh⟩ : ∃ h : Sh, h = (0, 0, fun k _ => if k = 0 then q0 else u (k - 1)) := ⟨_, rfl⟩
  have h10 : h.1 = 0 := by rw [hh]
  have h20 : h.2.1 = 0 := by rw [hh]
  have hpp : h.2.2 0 0 = q0 := by rw [hh]; rfl
  have hW : FW (gX g (fun _ => none)) h (Ax s.heap.size) sg0 H := by
    refine FW.of_list hP hD h10 h20 (fun k hk => ?_)
    have e1 := spF_0 (h := h) h10
    have e2 := bdF_0 (h := h) h20
    rcases (show k = 0 ∨ k = 1 ∨ k = 2 ∨ k = 3 ∨ k = 4 by omega) with rfl | rfl | rfl | rfl | rfl
    · rw [hh]; rfl
    · show _ = some ((h.2.2 1 0, .inl (g.2.1.2.2.2.1, 4, .inr (.inr (.inr (.inr (spF h)))))) : Nat × va_E)
      rw [e1, hh]; rfl
    · show _ = some ((h.2.2 2 0, .inl (g.2.1.2.2.2.2.1, 8, .inr (.inr (.inr (.inr (bdF h)))))) : Nat × va_E)
      rw [e2, hh]; rfl
    · rw [hh]; rfl
    · rw [hh]; rfl
  have hC : Cm ab0 h.1 h.2.1 sg0 := by rw [h10, h20]; exact cm0
  have hF : Wf ab0 h.1 h.2.1 1 := by rw [h10, h20]; exact wf0
  rw [← hpp] at hl
  refine lv_aload_n hx hb dL_law_8 rfl (lv_at hl 0 rfl) ?_
  refine lv_aload_n hx hb dL_law_9 rfl (lv_at hl 1 rfl) ?_
  refine lv_sipush (v := nI 30000) hx hb dL_law_10 (by decide) ?_
  refine va_callq (va_runS (As := [.ref (h.2.2 0 0), .ref b, .int (nI 30000)]) (rest := []) C0 (kL_build l s.heap.size g h sg0 (fun _ => none) ab0 b L xs hbl hL h10 h20 hC hF bi0) (va_cwS 3 C0.2.2.2.2 (gS (ws_good wCO_L_build) wML_L_97 wST_L_build wIN_L) rfl rfl rfl hdsL_build ⟨Nat.le_of_ble_eq_true rfl, Nat.le_of_ble_eq_true rfl⟩) ⟨WS.blind, fun U hU hw => ⟨rfl, WS.at hlo hK.x hW hS hX hbl U hU hw⟩⟩ rfl rfl hl.1 rfl (lv_room (Nat.le_of_ble_eq_true rfl)) dL_law_13 ⟨Nat.le_of_ble_eq_true rfl, Nat.le_of_ble_eq_true rfl⟩) hS (fun _ _ q => q) (fun _ q => q) (fun r' v t H1 locs ht hvm hw hB hz hk hS => ?_)
  obtain ⟨rfl, hBQ⟩ := hw
  subst ht
  obtain ⟨h2, σ, X, B, sim⟩ := v
  obtain ⟨h1, g3, hC, hF, hBI, hM⟩ := hBQ
  have h1 : 1 ≤ h2.1 := h1
  have g3 : h2.2.2 0 0 = h.2.2 0 0 := g3
  have hC : Cm B h2.1 h2.2.1 σ := hC
  have hF : Wf B h2.1 h2.2.1 1 := hF
  have hBI : BI h2.2.1 B := hBI
  have hM : SM g X h2.1 h2.2.1 sim B := hM
  have hW : FW (gX g X) h2 (Ax s.heap.size) σ t.heap := hB
  generalize t.heap = H at hW hS ⊢
  obtain ⟨aS, aC, aB, aO, FS, FB, m1, m2, m3, m4⟩ := id hM
  have h4 := hF.1
  have h8 := hF.2.1
  have hsm := hs_le hF
  have z302 : B 3 0 2 = 0 := hBI.2.2.1
  rw [← g3] at hl
  refine lv_astore_n (lv' := [(2, .ref (sim)), (1, .ref (h2.2.2 0 0)), (0, .ref (b))]) hx hb dL_law_16 rfl hl (by decide) rfl (fun ls hl => ?_)
  refine lv_aload_n hx hb dL_law_17 rfl (lv_at hl 0 rfl) ?_
  refine lv_ifnonnull (tgt := 23) hx hb dL_law_18 (by decide) ?_
  refine lv_aload_n hx hb dL_law_23 rfl (lv_at hl 0 rfl) ?_
  refine xgf (ci := 6) (C := RX6) (T := TX6) (N := 6) C0 hK hW m1 rfl inX6_B 1 (by decide) wFL_L_31 rfl rfl dL_law_24 ?_
  refine xln (v := nI h2.1) C0 hK hW 6 m2 rfl rfl dL_law_27 ?_
  refine lv_istore_n (lv' := [(3, .int (nI (h2.1))), (2, .ref (sim)), (1, .ref (h2.2.2 0 0)), (0, .ref (b))]) hx hb dL_law_28 rfl hl (by decide) rfl (fun ls hl => ?_)
  refine lv_aload_n hx hb dL_law_29 rfl (lv_at hl 1 rfl) ?_
  refine xgf (ci := 6) (C := RX6) (T := TX6) (N := 6) C0 hK hW m1 rfl inX6_B 3 (by decide) wFL_L_92 rfl rfl dL_law_30 ?_
  refine xln (v := nI h2.2.1) C0 hK hW 9 m3 rfl rfl dL_law_33 ?_
  refine lv_istore (lv' := [(4, .int (nI (h2.2.1))), (3, .int (nI (h2.1))), (2, .ref (sim)), (1, .ref (h2.2.2 0 0)), (0, .ref (b))]) hx hb dL_law_34 hl (by decide) rfl (fun ls hl => ?_)
  refine lv_aload_n hx hb dL_law_36 rfl (lv_at hl 3 rfl) ?_
  refine lv_iconst (v := nI 5) hx hb dL_law_37 (by decide) ?_
  refine cCount C0 hlo hK hW hS hC hF (a := hs B h2.1) (by decide) (hs_cn hF) hRf hRl (Nat.le_of_ble_eq_true rfl) (Nat.le_of_ble_eq_true rfl) hl.1 (Nat.le_of_ble_eq_true rfl) dL_law_38 (fun H locs hW hS => ?_)
  refine lv_istore (lv' := [(5, .int (nI (hs B h2.1))), (4, .int (nI (h2.2.1))), (3, .int (nI (h2.1))), (2, .ref (sim)), (1, .ref (h2.2.2 0 0)), (0, .ref (b))]) hx hb dL_law_41 hl (by decide) rfl (fun ls hl => ?_)
  refine lv_iconst (v := nI 0) hx hb dL_law_43 (by decide) ?_
  rw [show nI 0 = nI (B 3 0 2) by rw [z302]]
  refine lv_istore (lv' := [(6, .int (nI (B 3 0 2))), (5, .int (nI (hs B h2.1))), (4, .int (nI (h2.2.1))), (3, .int (nI (h2.1))), (2, .ref (sim)), (1, .ref (h2.2.2 0 0)), (0, .ref (b))]) hx hb dL_law_44 hl (by decide) rfl (fun ls hl => ?_)
  refine lv_iconst (v := nI 0) hx hb dL_law_46 (by decide) ?_
  refine lv_istore (lv' := [(7, .int (nI (0))), (6, .int (nI (B 3 0 2))), (5, .int (nI (hs B h2.1))), (4, .int (nI (h2.2.1))), (3, .int (nI (h2.1))), (2, .ref (sim)), (1, .ref (h2.2.2 0 0)), (0, .ref (b))]) hx hb dL_law_47 hl (by decide) rfl (fun ls hl => ?_)
  refine tk49 (C1 := 600) (S1 := 8000) C0 hlo hK hRf hRl hX hbl hL (by omega) (Nat.le_of_ble_eq_true rfl) (Nat.le_of_ble_eq_true rfl) 40 0 (hs B h2.1) _ _ B σ H _ ls (by omega) (Nat.le_of_ble_eq_true rfl) (Nat.le_of_ble_eq_true rfl) hC hF hBI.lw hM hW hS (lv_sub hl [7, 6, 5, 4, 3, 2, 1, 0] rfl) (fun w B σ H locs ls hC hF hLw hW hS hl => ?_)
  refine lv_iconst (v := nI 1) hx hb dL_law_818 (by decide) ?_
  refine lv_istore (lv' := [(7, .int (nI (1))), (0, .ref (b)), (1, .ref (h2.2.2 0 0)), (2, .ref (sim)), (3, .int (nI (h2.1))), (4, .int (nI (h2.2.1))), (5, .int (nI (w))), (6, .int (nI (B 3 0 2)))]) hx hb dL_law_819 hl (by decide) rfl (fun ls hl => ?_)
  refine od821 C0 hlo hK hRf hRl (Nat.le_of_ble_eq_true rfl) (Nat.le_of_ble_eq_true rfl) hC hF hLw (max 1 (min 250 (B 3 0 2)) - 1) 0 H locs ls (by omega) hW hS (lv_sub hl [1, 2, 3, 4, 5, 6, 7, 0] rfl) (fun H locs ls hW hS hl => ?_)
  exact en939 C0 hlo hK hRf hRl (Nat.le_of_ble_eq_true rfl) (Nat.le_of_ble_eq_true rfl) hC hF hLw hW hS hl (fun σ H locs ls hW hS => kend H locs ls hS)
/-! THE CLAIM OUT OF ONE WALK OF THE LAW'S BODY. Your part is whole_start (and what it stands on); all else here is the same for every law, but numbers. -/
def R_law : String := "BirdParlourLaw"
def lw_P (b : Addr) (xs : List Int32) (args : Array Value) (s : State) : Prop := args = #[.ref b] ∧ s.IntsAt b xs ∧ xs.length ≤ 260 ∧ (Jvm.Cond.and given_1 narrow_1).before args s = true
def lw_Q (_ : Array Value) (s : State) (o : Outcome) (t : State) : Prop := o = .returned (some (.int 1)) ∧ Framed s o t [] 600086 7301442
def lw_Z (below : List Frame) (a : Array Value) (s : State) : State → Prop := fun t => ∃ o, t.status = .running ∧ Ended t below o ∧ lw_Q a s o t
/-- the law's own end, with 1 on the stack, nothing written that was there before, its room as the claim has it -/
theorem lw_ret {p : Program} {l : Launch} {e : Env} {s : State} {m : MethodId} {below : List Frame} {meth : Method} {c : Code} {b : Nat} (hx : p.tables.exec = Jvm.exec) (hb : c.code = code) (hr : meth.sig.returnType = ret) (hlocks : meth.locks = false) {pc : Nat} {H : Heap} {ls : Array Slot} (hdg : decode code pc = .ok (.ireturn, 1)) : W p l e room_1 s m #[Value.ref b] below meth c H [] 600086 7301442 (lw_Z below #[Value.ref b] s) (F0 m pc ls [.int 1]) := by
  intro T hT X
  obtain ⟨fs, hret, hrun, hended, hW, hframe⟩ := X.leave (v := some (.int 1)) (hlocks := hlocks) (fun h => by rw [hr] at h; cases h)
  have hmeth' : T.vm.method? m = some meth := X.method'
  refine ⟨T.setFrames fs, ?_, .returned (some (.int 1)), hrun, hended, rfl, ⟨_, rfl⟩, hW, hframe⟩
  jvm_step X.here [X.here.top, hx, hb, hdg, hmeth', hr, ret, narrow_b1]
  (try refine ⟨rfl, ?_⟩); (try refine ⟨rfl, ?_⟩)
  first | (intro acts; rw [hret _ acts rfl rfl rfl]) | rw [hret _ _ rfl rfl rfl]
  exact Steps.refl _
/-- what holds at the law's entry: the machine, the code, the tables' words (any of lw_tbl by 'hts w (by decide +kernel)'), the script of L ints xs at the cell b, what the Statement gives of the start (any of its parts by flat_of_before) -/
def lw_At (p : Program) (s : State) (m : MethodId) (meth : Method) (c : Code) (b L : Nat) (xs : Nat → Int32) : Prop :=
  p.tables.exec = Jvm.exec ∧ c.code = code ∧ meth.sig.returnType = ret ∧ c.maxLocals = 26 ∧ s.vm.findClass R_law = some m.cls ∧ (∀ w ∈ lw_tbl, w.before #[Value.ref b] s = true) ∧ va_X b L xs s s.heap ∧ b < s.heap.size ∧ meth.locks = false ∧ (Jvm.Cond.and given_1 narrow_1).before #[Value.ref b] s = true
theorem whole_start {p : Program} {e : Env} {s : State} {m : MethodId} {below : List Frame} {meth : Method} {c : Code} (l : Launch) (hflags : l.flags = flags0) {b L : Nat} {xs : Nat → Int32} (hL : L ≤ 260) (C0 : lw_At p s m meth c b L xs) : W p l e room_1 s m #[Value.ref b] below meth c s.heap [] 0 0 (lw_Z below #[Value.ref b] s) (entryFrame m ([Value.ref b] : List Value).toArray 26) := by
  obtain ⟨hx, hb, hr, hml, hown, hts, hX, hbl, hlocks, hgv⟩ := id C0
  obtain ⟨g, hK⟩ := KW_start hts
  have C1 : CallFix p m c cL_law 26 s #[Value.ref b] wB RL := ⟨hx, hb, hml, hown, fun w h => hts w (wB_tbl w h)⟩
  have hl := lv_entry ([.ref b]) (n := 26) (Nat.le_of_ble_eq_true rfl)
  rw [lg_entry_eq]
  generalize (lg_sl ([.ref b]) ++ List.replicate (26 - (lg_sl ([.ref b])).length) Slot.unset).toArray = ls at hl ⊢
  refine law_walk C1 hK hX hbl hL (fun H locs ls hS => ?_) hl
  refine va_forget (s := s) (fun q hq => hS.2.2 q hq) ?_
  refine W.widen (k := 600086) (n := 7301442) (Nat.le_of_ble_eq_true rfl) (Nat.le_of_ble_eq_true rfl) ?_
  exact lw_ret hx hb hr hlocks dL_law_981
