/-! THE START -/
theorem xwAO_Spring : Cond.arrayOver (.object "BirdParlour$Spring") ∈ lw_tbl := List.mem_of_getElem? (i := 58) (by decide +kernel)
theorem xwAO_Bird : Cond.arrayOver (.object "BirdParlour$Bird") ∈ lw_tbl := List.mem_of_getElem? (i := 60) (by decide +kernel)
theorem xwMN_X4_23 : Cond.methodLinkNest RX4 23 yX2_init "BirdParlour" ∈ lw_tbl := List.mem_of_getElem? (i := 63) (by decide +kernel)
theorem xwMN_X2_32 : Cond.methodLinkNest RX2 32 yX4_at "BirdParlour" ∈ lw_tbl := List.mem_of_getElem? (i := 116) (by decide +kernel)
theorem xwCA_IndexOutOfBoundsException : Cond.castable "java/lang/IndexOutOfBoundsException" "java/lang/IndexOutOfBoundsException" ∈ lw_tbl := List.mem_of_getElem? (i := 155) (by decide +kernel)
theorem xwLS_UNASSIGNED_STACK : Cond.laysStatic "java/lang/Throwable" "UNASSIGNED_STACK" "[Ljava/lang/StackTraceElement;" ∈ lw_tbl := List.mem_of_getElem? (i := 180) (by decide +kernel)
theorem xwLS_SUPPRESSED_SENTINEL : Cond.laysStatic "java/lang/Throwable" "SUPPRESSED_SENTINEL" "Ljava/util/List;" ∈ lw_tbl := List.mem_of_getElem? (i := 182) (by decide +kernel)
theorem xwSR_243 : Cond.stringRef RX4 243 "what is not 0 to 5" ∈ lw_tbl := List.mem_of_getElem? (i := 194) (by decide +kernel)
theorem xwSR_57 : Cond.stringRef RX4 57 "no such spring" ∈ lw_tbl := List.mem_of_getElem? (i := 233) (by decide +kernel)
theorem xwMN_X0_71 : Cond.methodLinkNest RX0 71 yX4_at "BirdParlour" ∈ lw_tbl := List.mem_of_getElem? (i := 258) (by decide +kernel)
theorem xwSR_106 : Cond.stringRef RX4 106 "what is not 0 to 6" ∈ lw_tbl := List.mem_of_getElem? (i := 259) (by decide +kernel)
theorem xwSR_126 : Cond.stringRef RX4 126 "no such bird" ∈ lw_tbl := List.mem_of_getElem? (i := 272) (by decide +kernel)
theorem xwSR_222 : Cond.stringRef RX4 222 "what is not 0 to 9" ∈ lw_tbl := List.mem_of_getElem? (i := 274) (by decide +kernel)
theorem xwSR_177 : Cond.stringRef RX4 177 "no such bird or cam" ∈ lw_tbl := List.mem_of_getElem? (i := 283) (by decide +kernel)
theorem xwMN_X0_67 : Cond.methodLinkNest RX0 67 yX4_isIn "BirdParlour" ∈ lw_tbl := List.mem_of_getElem? (i := 288) (by decide +kernel)
theorem xwCA_IllegalArgumentException : Cond.castable "java/lang/IllegalArgumentException" "java/lang/IllegalArgumentException" ∈ lw_tbl := List.mem_of_getElem? (i := 293) (by decide +kernel)
theorem xwSR_224 : Cond.stringRef RX4 224 "place is neither -1 nor on the barrel" ∈ lw_tbl := List.mem_of_getElem? (i := 300) (by decide +kernel)
theorem xwSR_248 : Cond.stringRef RX4 248 "no such note" ∈ lw_tbl := List.mem_of_getElem? (i := 313) (by decide +kernel)
theorem xwSR_250 : Cond.stringRef RX4 250 "what is not 0 to 3" ∈ lw_tbl := List.mem_of_getElem? (i := 314) (by decide +kernel)
theorem xwSR_34 : Cond.stringRef RX4 34 "strength is not 1 to 50" ∈ lw_tbl := List.mem_of_getElem? (i := 324) (by decide +kernel)
theorem xwCA_IllegalStateException : Cond.castable "java/lang/IllegalStateException" "java/lang/IllegalStateException" ∈ lw_tbl := List.mem_of_getElem? (i := 327) (by decide +kernel)
theorem xwSR_45 : Cond.stringRef RX4 45 "there are 4 springs" ∈ lw_tbl := List.mem_of_getElem? (i := 334) (by decide +kernel)
theorem xwSR_61 : Cond.stringRef RX4 61 "turns is not 1 to 200000" ∈ lw_tbl := List.mem_of_getElem? (i := 384) (by decide +kernel)
theorem xwSR_76 : Cond.stringRef RX4 76 "both are the same spring" ∈ lw_tbl := List.mem_of_getElem? (i := 402) (by decide +kernel)
theorem xwSR_108 : Cond.stringRef RX4 108 "weight is not 0 to 20" ∈ lw_tbl := List.mem_of_getElem? (i := 417) (by decide +kernel)
theorem xwSR_110 : Cond.stringRef RX4 110 "places is not 8 to 96" ∈ lw_tbl := List.mem_of_getElem? (i := 418) (by decide +kernel)
theorem xwSR_112 : Cond.stringRef RX4 112 "p or q is not 1 to 12" ∈ lw_tbl := List.mem_of_getElem? (i := 419) (by decide +kernel)
theorem xwSR_117 : Cond.stringRef RX4 117 "there are 8 birds" ∈ lw_tbl := List.mem_of_getElem? (i := 420) (by decide +kernel)
theorem xwAO_Cam : Cond.arrayOver (.object "BirdParlour$Cam") ∈ lw_tbl := List.mem_of_getElem? (i := 427) (by decide +kernel)
theorem xwMN_X0_48 : Cond.methodLinkNest RX0 48 yX1_init "BirdParlour" ∈ lw_tbl := List.mem_of_getElem? (i := 429) (by decide +kernel)
theorem xwSR_142 : Cond.stringRef RX4 142 "place is not on the barrel" ∈ lw_tbl := List.mem_of_getElem? (i := 521) (by decide +kernel)
theorem xwSR_144 : Cond.stringRef RX4 144 "lever is not 0 to 5" ∈ lw_tbl := List.mem_of_getElem? (i := 522) (by decide +kernel)
theorem xwSR_153 : Cond.stringRef RX4 153 "there are 24 pins" ∈ lw_tbl := List.mem_of_getElem? (i := 527) (by decide +kernel)
theorem xwMN_X0_82 : Cond.methodLinkNest RX0 82 yX4_put "BirdParlour" ∈ lw_tbl := List.mem_of_getElem? (i := 533) (by decide +kernel)
theorem xwSR_159 : Cond.stringRef RX4 159 "note is not 0 to 87" ∈ lw_tbl := List.mem_of_getElem? (i := 543) (by decide +kernel)
theorem xwSR_179 : Cond.stringRef RX4 179 "lift is not -1 to 100" ∈ lw_tbl := List.mem_of_getElem? (i := 552) (by decide +kernel)
theorem xwMN_X1_18 : Cond.methodLinkNest RX1 18 yX4_at "BirdParlour" ∈ lw_tbl := List.mem_of_getElem? (i := 557) (by decide +kernel)
theorem xwSR_186 : Cond.stringRef RX4 186 "there is no point to take away" ∈ lw_tbl := List.mem_of_getElem? (i := 558) (by decide +kernel)
theorem xwSR_191 : Cond.stringRef RX4 191 "the cam has 8 points" ∈ lw_tbl := List.mem_of_getElem? (i := 559) (by decide +kernel)
theorem xwMN_X1_30 : Cond.methodLinkNest RX1 30 yX4_put "BirdParlour" ∈ lw_tbl := List.mem_of_getElem? (i := 565) (by decide +kernel)
theorem xwMN_X1_42 : Cond.methodLinkNest RX1 42 yX4_remainder "BirdParlour" ∈ lw_tbl := List.mem_of_getElem? (i := 574) (by decide +kernel)
theorem xwSR_229 : Cond.stringRef RX4 229 "ticks is not 1 to 500" ∈ lw_tbl := List.mem_of_getElem? (i := 599) (by decide +kernel)
theorem xwMN_X2_28 : Cond.methodLinkNest RX2 28 yX4_put "BirdParlour" ∈ lw_tbl := List.mem_of_getElem? (i := 650) (by decide +kernel)
theorem xwSR_255 : Cond.stringRef RX4 255 "tick is less than 0" ∈ lw_tbl := List.mem_of_getElem? (i := 666) (by decide +kernel)
theorem xwSR_268 : Cond.stringRef RX4 268 "most is not 1 to 2000" ∈ lw_tbl := List.mem_of_getElem? (i := 680) (by decide +kernel)
theorem xwNAcopy : Cond.native arraycopyName ∈ lw_tbl := List.mem_of_getElem? (i := 845) (by decide +kernel)
theorem xwDC_RuntimeException : Cond.declares ⟨"java/lang/RuntimeException", "<init>", "(Ljava/lang/String;)V"⟩ ∈ lw_tbl := List.mem_of_getElem? (i := 157) (by decide +kernel)
theorem xwDC_Exception : Cond.declares ⟨"java/lang/Exception", "<init>", "(Ljava/lang/String;)V"⟩ ∈ lw_tbl := List.mem_of_getElem? (i := 159) (by decide +kernel)
theorem xwDC_Throwable : Cond.declares ⟨"java/lang/Throwable", "<init>", "(Ljava/lang/String;)V"⟩ ∈ lw_tbl := List.mem_of_getElem? (i := 161) (by decide +kernel)
theorem xwINThrowable : Cond.initialized "java/lang/Throwable" ∈ lw_tbl := List.mem_of_getElem? (i := 36) (by decide +kernel)
theorem nst_in : ∀ q ∈ nstW, Cond.methodLinkNest q.1 q.2.1 q.2.2.1 q.2.2.2 ∈ lw_tbl := List.forall_mem_cons.mpr ⟨xwMN_X4_23, List.forall_mem_cons.mpr ⟨xwMN_X2_32, List.forall_mem_cons.mpr ⟨xwMN_X0_71, List.forall_mem_cons.mpr ⟨xwMN_X0_67, List.forall_mem_cons.mpr ⟨xwMN_X0_48, List.forall_mem_cons.mpr ⟨xwMN_X0_82, List.forall_mem_cons.mpr ⟨xwMN_X1_18, List.forall_mem_cons.mpr ⟨xwMN_X1_30, List.forall_mem_cons.mpr ⟨xwMN_X1_42, List.forall_mem_cons.mpr ⟨xwMN_X2_28, fun _ h => absurd h List.not_mem_nil⟩⟩⟩⟩⟩⟩⟩⟩⟩⟩
theorem str_in : ∀ q ∈ strW, Cond.stringRef RX4 q.1 q.2 ∈ lw_tbl := List.forall_mem_cons.mpr ⟨xwSR_243, List.forall_mem_cons.mpr ⟨xwSR_57, List.forall_mem_cons.mpr ⟨xwSR_106, List.forall_mem_cons.mpr ⟨xwSR_126, List.forall_mem_cons.mpr ⟨xwSR_222, List.forall_mem_cons.mpr ⟨xwSR_177, List.forall_mem_cons.mpr ⟨xwSR_224, List.forall_mem_cons.mpr ⟨xwSR_248, List.forall_mem_cons.mpr ⟨xwSR_250, List.forall_mem_cons.mpr ⟨xwSR_34, List.forall_mem_cons.mpr ⟨xwSR_45, List.forall_mem_cons.mpr ⟨xwSR_61, List.forall_mem_cons.mpr ⟨xwSR_76, List.forall_mem_cons.mpr ⟨xwSR_108, List.forall_mem_cons.mpr ⟨xwSR_110, List.forall_mem_cons.mpr ⟨xwSR_112, List.forall_mem_cons.mpr ⟨xwSR_117, List.forall_mem_cons.mpr ⟨xwSR_142, List.forall_mem_cons.mpr ⟨xwSR_144, List.forall_mem_cons.mpr ⟨xwSR_153, List.forall_mem_cons.mpr ⟨xwSR_159, List.forall_mem_cons.mpr ⟨xwSR_179, List.forall_mem_cons.mpr ⟨xwSR_186, List.forall_mem_cons.mpr ⟨xwSR_191, List.forall_mem_cons.mpr ⟨xwSR_229, List.forall_mem_cons.mpr ⟨xwSR_255, List.forall_mem_cons.mpr ⟨xwSR_268, fun _ h => absurd h List.not_mem_nil⟩⟩⟩⟩⟩⟩⟩⟩⟩⟩⟩⟩⟩⟩⟩⟩⟩⟩⟩⟩⟩⟩⟩⟩⟩⟩⟩
theorem cas_in : ∀ E ∈ exs, Cond.castable E E ∈ lw_tbl := List.forall_mem_cons.mpr ⟨xwCA_IndexOutOfBoundsException, List.forall_mem_cons.mpr ⟨xwCA_IllegalArgumentException, List.forall_mem_cons.mpr ⟨xwCA_IllegalStateException, fun _ h => absurd h List.not_mem_nil⟩⟩⟩
theorem dcl_in : ∀ x ∈ dclW, Cond.declares x ∈ lw_tbl := List.forall_mem_cons.mpr ⟨xwDC_RuntimeException, List.forall_mem_cons.mpr ⟨xwDC_Exception, List.forall_mem_cons.mpr ⟨xwDC_Throwable, fun _ h => absurd h List.not_mem_nil⟩⟩⟩
theorem kn_arr {args : Array Value} {s : State} {ty : FieldType} (h : (Cond.arrayClass ty).before args s = true) : ∃ cA : ClassId, ArrOfT s cA ty ∧ s.vm.findClass ("[" ++ ty.toString) = some cA := by
  obtain ⟨cA, kA, comp, h1, h2, h3⟩ := Cond.arrayClass_spec h
  exact ⟨cA, fun n z => ⟨fun k h => (by cases h), kA, h2, comp, h3⟩, h1⟩
theorem kn_over {args : Array Value} {s : State} {C : String} (h : (Cond.arrayOver (.object C)).before args s = true) : ∃ cA : ClassId, ArrOfT s cA (.object C) ∧ va_RA s cA (.object C) := by
  obtain ⟨comp, cA, kA, h1, h2, h3, h4, h5⟩ := Cond.arrayOver_spec h
  exact ⟨cA, fun n z => ⟨fun k h => (by cases h), kA, h3, comp, h4⟩, kA, comp, h3, h4, h1, h5⟩
theorem str_kn {args : Array Value} {s : State} (hown : ∃ k, s.vm.findClass RX4 = some k) {i : Nat} {tx : String} (h : (Cond.stringRef RX4 i tx).before args s = true) : ∃ a : Nat, (Term.string RX4 i).eval #[] s none [] s = some (.ref a) := by
  obtain ⟨k, hk⟩ := hown
  obtain ⟨_, _, _, a, _, _, _, _, _, h6⟩ := Cond.stringRef_spec hk h
  exact ⟨a, h6⟩
theorem KW_start {args : Array Value} {s : State} (hts : ∀ w ∈ lw_tbl, w.before args s = true) (hgv : (Jvm.Cond.and given_1 narrow_1).before args s = true) : ∃ g : Gx, KW g s := by
  have htB : ∀ w ∈ wB, w.before args s = true := fun w h => hts w (wB_tbl w h)
  obtain ⟨c0, iS0, hKn0⟩ := u_known (C := RX0) (T := TX0) (N := 15) (n := 15) htB inX0_B (htB _ wIS_X0)
  obtain ⟨c1, iS1, hKn1⟩ := u_known (C := RX1) (T := TX1) (N := 3) (n := 3) htB inX1_B (htB _ wIS_X1)
  obtain ⟨c2, iS2, hKn2⟩ := u_known (C := RX2) (T := TX2) (N := 5) (n := 5) htB inX2_B (htB _ wIS_X2)
  obtain ⟨c3, iS3, hKn3⟩ := u_known (C := RX3) (T := TX3) (N := 8) (n := 8) htB inX3_B (htB _ wIS_X3)
  obtain ⟨c4, iS4, hKn4⟩ := u_known (C := RX4) (T := TX4) (N := 7) (n := 7) htB inX4_B (htB _ wIS_X4)
  obtain ⟨c5, iS5, hKn5⟩ := u_known (C := RX5) (T := TX5) (N := 16) (n := 16) htB inX5_B (htB _ wIS_X5)
  obtain ⟨cI, aI1, aI2⟩ := kn_arr (htB _ warrayClass__int)
  obtain ⟨cZ, aZ1, aZ2⟩ := kn_arr (htB _ warrayClass__boolean)
  obtain ⟨cJ, aJ1, aJ2⟩ := kn_arr (htB _ warrayClass__long)
  obtain ⟨cS, aS1, aS2⟩ := kn_over (C := RX3) (hts _ xwAO_Spring)
  obtain ⟨cB, aB1, aB2⟩ := kn_over (C := RX0) (hts _ xwAO_Bird)
  obtain ⟨cC, aC1, aC2⟩ := kn_over (C := RX1) (hts _ xwAO_Cam)
  have hcl : ∃ k, s.vm.findClass RX4 = some k := ⟨c4, hKn4.2.1⟩
  have hq := flat_of_before _ hgv
  have hch : ∀ i : Nat, ∃ a : Nat, (∃ a' : Nat, (Term.string RX4 i).eval #[] s none [] s = some (.ref a')) → (Term.string RX4 i).eval #[] s none [] s = some (.ref a) := fun i => (Classical.em (∃ a' : Nat, (Term.string RX4 i).eval #[] s none [] s = some (.ref a'))).elim (fun ⟨a, h⟩ => ⟨a, fun _ => h⟩) (fun h => ⟨0, fun h' => absurd h' h⟩)
  obtain ⟨fs, hfs⟩ := Classical.axiomOfChoice hch
  let D : va_G := (fun k => if k = 0 then c0 else if k = 1 then c1 else if k = 2 then c2 else if k = 3 then c3 else if k = 4 then c4 else c5, fun k => if k = 0 then iS0 else if k = 1 then iS1 else if k = 2 then iS2 else if k = 3 then iS3 else if k = 4 then iS4 else iS5)
  refine ⟨(D, (cI, cZ, cJ, cS, cB, cC), fs), ⟨⟨fun k q hk => ?_, fun k q hk => ?_⟩, fun q h => va_Nw.of rfl (hts _ (nst_in q h)), fun q h => ?_, fun E h => va_Nw.of rfl (hts _ (cas_in E h)), fun E hE E' hE' hn => ?_, fun x h => va_Nw.of rfl (hts _ (dcl_in x h)), va_Nw.of rfl (hts _ xwNAcopy), va_AO.of (hts _ xwAO_Spring), va_AO.of (hts _ xwAO_Bird), va_AO.of (hts _ xwAO_Cam)⟩⟩
  · match k, hk with
    | 0, hk => cases hk; exact hKn0
    | 1, hk => cases hk; exact hKn1
    | 2, hk => cases hk; exact hKn2
    | 3, hk => cases hk; exact hKn3
    | 4, hk => cases hk; exact hKn4
    | 5, hk => cases hk; exact hKn5
    | k + 6, hk => simp [vwCl] at hk
  · match k, hk with
    | 0, hk => cases hk; exact ⟨aI1, aI2⟩
    | 1, hk => cases hk; exact ⟨aZ1, aZ2⟩
    | 2, hk => cases hk; exact ⟨aJ1, aJ2⟩
    | 3, hk => cases hk; exact ⟨aS1, aS2⟩
    | 4, hk => cases hk; exact ⟨aB1, aB2⟩
    | 5, hk => cases hk; exact ⟨aC1, aC2⟩
    | k + 6, hk => simp [tysG] at hk
  · have h1 := hts _ (str_in q h)
    have h2 := str_kn hcl h1
    refine vk_R.of h1 ?_
    show (Term.string RX4 q.1).eval args s none [] s = some (.ref (fs q.1))
    exact hfs q.1 h2
  · simp only [exs, List.mem_cons, List.not_mem_nil, or_false] at hE hE'
    rcases hE with rfl | rfl | rfl <;> rcases hE' with rfl | rfl | rfl <;> first | exact absurd rfl hn | exact va_Nc.of (hq _ (by decide +kernel))
theorem ZW_start {args : Array Value} {s : State} (hts : ∀ w ∈ lw_tbl, w.before args s = true) (hgv : (Jvm.Cond.and given_1 narrow_1).before args s = true) : ZW s.heap.size s s.heap := by
  have hq := flat_of_before _ hgv
  exact ⟨vx_Zqof (hts _ xwLS_UNASSIGNED_STACK) (hts _ xwINThrowable) (hq _ (by decide +kernel)) (fun a h z => absurd (show s.heap.size ≤ a from z) (by omega)), vx_Zqof (hts _ xwLS_SUPPRESSED_SENTINEL) (hts _ xwINThrowable) (hq _ (by decide +kernel)) (fun a h z => absurd (show s.heap.size ≤ a from z) (by omega))⟩
theorem FW.of_list {g : Gx} {h : Sh} {A : Nat → Prop} {σ : Sg} {ws : va_W} {H : Heap} (hP : va_P g.1 vwCl ws H) (hD : va_D A ws) (h1 : h.1 = 0) (h2 : h.2.1 = 0) (nw : Nat → Nat) (hn : ∀ k, (k ≤ 4 ∨ (20 ≤ k ∧ k ≤ 30)) → ws[nw k]? = some (h.2.2 k 0, ct g h σ k 0)) (hi : ∀ k k', (k ≤ 4 ∨ (20 ≤ k ∧ k ≤ 30)) → (k' ≤ 4 ∨ (20 ≤ k' ∧ k' ≤ 30)) → nw k = nw k' → k = k') : FW g h A σ H := by
  obtain ⟨L, f, e, -, h3⟩ := pool_app (A := A) ws [] (fun _ => .inr (0, [])) hD
  have e : va_pl L f = ws := e
  have key : ∀ k i, al h k i → i = 0 ∧ (k ≤ 4 ∨ (20 ≤ k ∧ k ≤ 30)) := by
    intro k i ha
    unfold al at ha
    rw [h1, h2] at ha
    omega
  refine ⟨L, f, by rw [e]; exact hP, by rw [e]; exact hD, fun k i ha => ?_, fun k i k' i' ha ha' heq => ?_⟩
  · obtain ⟨rfl, hk⟩ := key k i ha
    exact h3 _ (List.mem_of_getElem? (hn k hk))
  · obtain ⟨rfl, hk⟩ := key k i ha
    obtain ⟨rfl, hk'⟩ := key k' i' ha'
    exact ⟨hi k k' hk hk' (hD.1 _ _ _ _ (hn k hk) (hn k' hk') heq), rfl⟩
/-- the state at the start -/
def sg0 : Sg := (fun _ _ _ => 0, fun _ _ _ => 0)
theorem spF_0 {h : Sh} (e : h.1 = 0) : spF h = fun _ => none := by
  funext j; unfold spF iO; rw [e, if_neg (by omega)]; rfl
theorem bdF_0 {h : Sh} (e : h.2.1 = 0) : bdF h = fun _ => none := by
  funext j; unfold bdF iO; rw [e, if_neg (by omega)]; rfl

set_option maxHeartbeats 8000000 in
theorem law_start {Inv : Nat → Nat → Nat → Sg → Prop} (OK : LawOK Inv) (hI0 : Inv 0 0 0 sg0) {p : Program} {l : Launch} {e : Env} {s : State} {m : MethodId} {args : Array Value} {below : List Frame} {meth : Method} {c : Code} {Q : State → Prop} {b L : Nat} {xs : Nat → Int32} {g : Gx} (C0 : CallFix p m c cL_law 9 s args wB RL) (hnt : l.stackTraces = false) (hK : KW g s) (hZ : ZW s.heap.size s s.heap) (hX : va_X b L xs s s.heap) (hbl : b < s.heap.size) (hL : L ≤ 3072)
    (kend : ∀ (d0 : Drawn) (H : Heap) (locs : List Loc) (ls : Array Slot), s.drawn.sameBut d0 lw_cs → va_S (Ax s.heap.size) s.heap H locs → W p l e room_1 (s.setDrawn d0) m args below meth c H locs 153800 569300 Q (F0 m 1493 ls []))
    {ls : Array Slot} (hl : lv_has ls 9 [(0, .ref b)]) : W p l e room_1 s m args below meth c s.heap [] 0 0 Q (F0 m 0 ls []) := by
  have hx := C0.1
  have hb := C0.2.1
  have hA : ∀ q : Nat, s.heap.size ≤ q → Ax s.heap.size q := fun _ h => h
  have hbA : ¬ Ax s.heap.size b := Nat.not_le.mpr hbl
  have hS : va_S (Ax s.heap.size) s.heap s.heap [] := va_S.rf
  have hP : va_P g.1 vwCl [] s.heap := fun k q h => by simp at h
  have hD : va_D (Ax s.heap.size) [] := ⟨fun i j p q h => by simp at h, fun k q h => by simp at h⟩
  refine va_new (ci := 4) (fs := [.null, .null, .null, .int 0, .int 0, .int 0, .int 0]) (C := RX4) (T := TX4) (N := 7) hx hb C0.2.2.2.2 inX4_B tyX4 tyX4_ok C0.2.2.2.1 (C0.2.2.2.2 _ wCL_L_8) (C0.2.2.2.2 _ wIS_X4) (C0.2.2.2.2 _ wIN_X4) hK.1 hP hD hS hA rfl (fun j hj => by rcases (show j = 0 ∨ j = 1 ∨ j = 2 ∨ j = 3 ∨ j = 4 ∨ j = 5 ∨ j = 6 by omega) with rfl | rfl | rfl | rfl | rfl | rfl | rfl <;> rfl) (Nat.le_of_ble_eq_true rfl) (Nat.le_of_ble_eq_true rfl) dL_law_0 (fun q0 H hP hD hS => ?_)
  have hP : va_P g.1 vwCl [(q0, .inr (4, [.null, .null, .null, .int 0, .int 0, .int 0, .int 0]))] H := hP
  have hD : va_D (Ax s.heap.size) [(q0, .inr (4, [.null, .null, .null, .int 0, .int 0, .int 0, .int 0]))] := hD
  refine lv_dup hx hb dL_law_3 rfl ?_
  have hFc := va_free (wc := [(q0, .inr (4, [.null, .null, .null, .int 0, .int 0, .int 0, .int 0]))]) hD hS hA [0] rfl
  refine va_callv (va_runI (As := []) (rest := [.ref q0]) C0 (kX4_init l g q0 H.size) (cwI 0 C0.2.2.2.2 (ws_good wCO_X4_init) rfl rfl rfl (C0.2.2.2.2 _ wIN_X4) (C0.2.2.2.2 _ wML_L_73) (C0.2.2.2.2 _ wIM_X4_init) rfl hdiX4_init ⟨Nat.le_of_ble_eq_true rfl, Nat.le_of_ble_eq_true rfl⟩) ⟨WL.blind, fun U hU hW => ⟨rfl, by rw [hU], by rw [hU]; exact hP, hD.weaken (fun _ _ _ _ => trivial), hK.warm hW⟩⟩ rfl rfl hl.1 rfl (lv_room (Nat.le_of_ble_eq_true rfl)) dL_law_4 ⟨Nat.le_of_ble_eq_true rfl, Nat.le_of_ble_eq_true rfl⟩) hS (fun q _ z => hFc q z) hFc (fun u t H1 locs ht hvm hw hB hz1 hk1 hS => ?_)
  obtain ⟨hP1, hD1⟩ := hB
  subst ht
  obtain ⟨hP, hD⟩ := va_join (wr := []) hP hD [0] [] rfl rfl (by decide) (by decide) hk1 hFc hP1 hD1
  have hP : va_P g.1 vwCl [(q0, .inr (4, [.ref (u 0), .ref (u 1), .ref (u 2), .int 0, .int 0, .int 0, .int 0])), ((u 0), .inl (g.2.1.2.2.2.1, 4, .inr (.inr (.inr (.inr (fun _ => none)))))), ((u 1), .inl (g.2.1.2.2.2.2.1, 8, .inr (.inr (.inr (.inr (fun _ => none)))))), ((u 2), .inr (2, [.ref (u 3), .int 0, .int 0, .int 0, .int 0])), ((u 3), .inl (g.2.1.1, 1000, .inl (fun _ => 0)))] t.heap := hP
  have hD : va_D (Ax s.heap.size) [(q0, .inr (4, [.ref (u 0), .ref (u 1), .ref (u 2), .int 0, .int 0, .int 0, .int 0])), ((u 0), .inl (g.2.1.2.2.2.1, 4, .inr (.inr (.inr (.inr (fun _ => none)))))), ((u 1), .inl (g.2.1.2.2.2.2.1, 8, .inr (.inr (.inr (.inr (fun _ => none)))))), ((u 2), .inr (2, [.ref (u 3), .int 0, .int 0, .int 0, .int 0])), ((u 3), .inl (g.2.1.1, 1000, .inl (fun _ => 0)))] := hD
  generalize t.heap = H at hP hS ⊢
  refine lv_astore_n (lv' := [(1, .ref q0), (0, .ref b)]) hx hb dL_law_7 rfl hl (by decide) rfl (fun ls hl => ?_)

  refine va_new (ci := 5) (fs := [.int 0, .int 0, .int 0, .int 0, .null, .null, .null, .null, .null, .null, .int 0, .int 0, .null, .int 0, .null, .null]) (C := RX5) (T := TX5) (N := 16) hx hb C0.2.2.2.2 inX5_B tyX5 tyX5_ok C0.2.2.2.1 (C0.2.2.2.2 _ wCL_L_74) (C0.2.2.2.2 _ wIS_X5) (C0.2.2.2.2 _ wIN_X5) hK.1 hP hD hS hA rfl (fun j hj => by rcases (show j = 0 ∨ j = 1 ∨ j = 2 ∨ j = 3 ∨ j = 4 ∨ j = 5 ∨ j = 6 ∨ j = 7 ∨ j = 8 ∨ j = 9 ∨ j = 10 ∨ j = 11 ∨ j = 12 ∨ j = 13 ∨ j = 14 ∨ j = 15 by omega) with rfl | rfl | rfl | rfl | rfl | rfl | rfl | rfl | rfl | rfl | rfl | rfl | rfl | rfl | rfl | rfl <;> rfl) (Nat.le_of_ble_eq_true rfl) (Nat.le_of_ble_eq_true rfl) dL_law_8 (fun q1 H hP hD hS => ?_)
  have hP : va_P g.1 vwCl [(q0, .inr (4, [.ref (u 0), .ref (u 1), .ref (u 2), .int 0, .int 0, .int 0, .int 0])), ((u 0), .inl (g.2.1.2.2.2.1, 4, .inr (.inr (.inr (.inr (fun _ => none)))))), ((u 1), .inl (g.2.1.2.2.2.2.1, 8, .inr (.inr (.inr (.inr (fun _ => none)))))), ((u 2), .inr (2, [.ref (u 3), .int 0, .int 0, .int 0, .int 0])), ((u 3), .inl (g.2.1.1, 1000, .inl (fun _ => 0))), (q1, .inr (5, [.int 0, .int 0, .int 0, .int 0, .null, .null, .null, .null, .null, .null, .int 0, .int 0, .null, .int 0, .null, .null]))] H := hP
  have hD : va_D (Ax s.heap.size) [(q0, .inr (4, [.ref (u 0), .ref (u 1), .ref (u 2), .int 0, .int 0, .int 0, .int 0])), ((u 0), .inl (g.2.1.2.2.2.1, 4, .inr (.inr (.inr (.inr (fun _ => none)))))), ((u 1), .inl (g.2.1.2.2.2.2.1, 8, .inr (.inr (.inr (.inr (fun _ => none)))))), ((u 2), .inr (2, [.ref (u 3), .int 0, .int 0, .int 0, .int 0])), ((u 3), .inl (g.2.1.1, 1000, .inl (fun _ => 0))), (q1, .inr (5, [.int 0, .int 0, .int 0, .int 0, .null, .null, .null, .null, .null, .null, .int 0, .int 0, .null, .int 0, .null, .null]))] := hD
  refine lv_dup hx hb dL_law_11 rfl ?_
  have hFc := va_free (wc := [(q1, .inr (5, [.int 0, .int 0, .int 0, .int 0, .null, .null, .null, .null, .null, .null, .int 0, .int 0, .null, .int 0, .null, .null]))]) hD hS hA [5] rfl
  have hPc := hP.sub (ws' := [(q1, .inr (5, [.int 0, .int 0, .int 0, .int 0, .null, .null, .null, .null, .null, .null, .int 0, .int 0, .null, .int 0, .null, .null]))]) [5] rfl
  have hDc := hD.sub (ws' := [(q1, .inr (5, [.int 0, .int 0, .int 0, .int 0, .null, .null, .null, .null, .null, .null, .int 0, .int 0, .null, .int 0, .null, .null]))]) [5] (by decide) rfl
  refine va_callv (va_runI (As := []) (rest := [.ref q1]) C0 (kX5_init l g q1 H.size) (cwI 0 C0.2.2.2.2 (ws_good wCO_X5_init) rfl rfl rfl (C0.2.2.2.2 _ wIN_X5) (C0.2.2.2.2 _ wML_L_76) (C0.2.2.2.2 _ wIM_X5_init) rfl hdiX5_init ⟨Nat.le_of_ble_eq_true rfl, Nat.le_of_ble_eq_true rfl⟩) ⟨WL.blind, fun U hU hW => ⟨rfl, by rw [hU], by rw [hU]; exact hPc, hDc.weaken (fun _ _ _ _ => trivial), hK.warm hW⟩⟩ rfl rfl hl.1 rfl (lv_room (Nat.le_of_ble_eq_true rfl)) dL_law_12 ⟨Nat.le_of_ble_eq_true rfl, Nat.le_of_ble_eq_true rfl⟩) hS (fun q _ z => hFc q z) hFc (fun v t H1 locs ht hvm hw hB hz1 hk1 hS => ?_)
  obtain ⟨hP1, hD1⟩ := hB
  subst ht
  obtain ⟨hP, hD⟩ := va_join (wr := [(q0, .inr (4, [.ref (u 0), .ref (u 1), .ref (u 2), .int 0, .int 0, .int 0, .int 0])), ((u 0), .inl (g.2.1.2.2.2.1, 4, .inr (.inr (.inr (.inr (fun _ => none)))))), ((u 1), .inl (g.2.1.2.2.2.2.1, 8, .inr (.inr (.inr (.inr (fun _ => none)))))), ((u 2), .inr (2, [.ref (u 3), .int 0, .int 0, .int 0, .int 0])), ((u 3), .inl (g.2.1.1, 1000, .inl (fun _ => 0)))]) hP hD [5] [0, 1, 2, 3, 4] rfl rfl (by decide) (by decide) hk1 hFc hP1 hD1
  have hP : va_P g.1 vwCl [(q0, .inr (4, [.ref (u 0), .ref (u 1), .ref (u 2), .int 0, .int 0, .int 0, .int 0])), ((u 0), .inl (g.2.1.2.2.2.1, 4, .inr (.inr (.inr (.inr (fun _ => none)))))), ((u 1), .inl (g.2.1.2.2.2.2.1, 8, .inr (.inr (.inr (.inr (fun _ => none)))))), ((u 2), .inr (2, [.ref (u 3), .int 0, .int 0, .int 0, .int 0])), ((u 3), .inl (g.2.1.1, 1000, .inl (fun _ => 0))), (q1, .inr (5, [.int 0, .int 0, .int 0, .int 0, .ref (v 0), .ref (v 1), .ref (v 2), .ref (v 3), .ref (v 4), .ref (v 5), .int 0, .int 0, .ref (v 6), .int 0, .ref (v 7), .ref (v 8)])), ((v 0), .inl (g.2.1.1, 20, .inl (fun _ => 0))), ((v 1), .inl (g.2.1.1, 88, .inl (fun _ => 0))), ((v 2), .inl (g.2.1.2.1, 16, .inl (fun _ => 0))), ((v 3), .inl (g.2.1.1, 768, .inl (fun _ => 0))), ((v 4), .inl (g.2.1.1, 48, .inl (fun _ => 0))), ((v 5), .inl (g.2.1.1, 2304, .inl (fun _ => 0))), ((v 6), .inl (g.2.1.1, 1000, .inl (fun _ => 0))), ((v 7), .inl (g.2.1.1, 20, .inl (fun _ => 0))), ((v 8), .inl (g.2.1.1, 88, .inl (fun _ => 0)))] t.heap := hP
  have hD : va_D (Ax s.heap.size) [(q0, .inr (4, [.ref (u 0), .ref (u 1), .ref (u 2), .int 0, .int 0, .int 0, .int 0])), ((u 0), .inl (g.2.1.2.2.2.1, 4, .inr (.inr (.inr (.inr (fun _ => none)))))), ((u 1), .inl (g.2.1.2.2.2.2.1, 8, .inr (.inr (.inr (.inr (fun _ => none)))))), ((u 2), .inr (2, [.ref (u 3), .int 0, .int 0, .int 0, .int 0])), ((u 3), .inl (g.2.1.1, 1000, .inl (fun _ => 0))), (q1, .inr (5, [.int 0, .int 0, .int 0, .int 0, .ref (v 0), .ref (v 1), .ref (v 2), .ref (v 3), .ref (v 4), .ref (v 5), .int 0, .int 0, .ref (v 6), .int 0, .ref (v 7), .ref (v 8)])), ((v 0), .inl (g.2.1.1, 20, .inl (fun _ => 0))), ((v 1), .inl (g.2.1.1, 88, .inl (fun _ => 0))), ((v 2), .inl (g.2.1.2.1, 16, .inl (fun _ => 0))), ((v 3), .inl (g.2.1.1, 768, .inl (fun _ => 0))), ((v 4), .inl (g.2.1.1, 48, .inl (fun _ => 0))), ((v 5), .inl (g.2.1.1, 2304, .inl (fun _ => 0))), ((v 6), .inl (g.2.1.1, 1000, .inl (fun _ => 0))), ((v 7), .inl (g.2.1.1, 20, .inl (fun _ => 0))), ((v 8), .inl (g.2.1.1, 88, .inl (fun _ => 0)))] := hD
  generalize t.heap = H at hP hS ⊢
  refine lv_astore_n (lv' := [(2, .ref q1), (1, .ref q0), (0, .ref b)]) hx hb dL_law_15 rfl hl (by decide) rfl (fun ls hl => ?_)
  refine lv_iconst (v := 1) hx hb dL_law_16 (by decide) ?_
  refine va_newa (atype := .long) (ty := .long) hx hb (C0.2.2.2.2 _ warrayClass__long) rfl hK.1 hP hD hS hA (a0 := (1, .inr (.inl (fun _ => 0)))) (fun cA => rfl) (by decide) (N' := 1) (by decide) (by decide) (Nat.le_of_ble_eq_true rfl) (Nat.le_of_ble_eq_true rfl) dL_law_17 (fun q2 cA H hK1 hP hD hS => ?_)
  have hcy : cA = g.2.1.2.2.1 := cyJ_eq hK (hK1.2 6 (cA, .long) (by rfl)).2
  subst hcy
  have hP : va_P g.1 vwCl [(q0, .inr (4, [.ref (u 0), .ref (u 1), .ref (u 2), .int 0, .int 0, .int 0, .int 0])), ((u 0), .inl (g.2.1.2.2.2.1, 4, .inr (.inr (.inr (.inr (fun _ => none)))))), ((u 1), .inl (g.2.1.2.2.2.2.1, 8, .inr (.inr (.inr (.inr (fun _ => none)))))), ((u 2), .inr (2, [.ref (u 3), .int 0, .int 0, .int 0, .int 0])), ((u 3), .inl (g.2.1.1, 1000, .inl (fun _ => 0))), (q1, .inr (5, [.int 0, .int 0, .int 0, .int 0, .ref (v 0), .ref (v 1), .ref (v 2), .ref (v 3), .ref (v 4), .ref (v 5), .int 0, .int 0, .ref (v 6), .int 0, .ref (v 7), .ref (v 8)])), ((v 0), .inl (g.2.1.1, 20, .inl (fun _ => 0))), ((v 1), .inl (g.2.1.1, 88, .inl (fun _ => 0))), ((v 2), .inl (g.2.1.2.1, 16, .inl (fun _ => 0))), ((v 3), .inl (g.2.1.1, 768, .inl (fun _ => 0))), ((v 4), .inl (g.2.1.1, 48, .inl (fun _ => 0))), ((v 5), .inl (g.2.1.1, 2304, .inl (fun _ => 0))), ((v 6), .inl (g.2.1.1, 1000, .inl (fun _ => 0))), ((v 7), .inl (g.2.1.1, 20, .inl (fun _ => 0))), ((v 8), .inl (g.2.1.1, 88, .inl (fun _ => 0))), (q2, .inl (g.2.1.2.2.1, 1, .inr (.inl (fun _ => 0))))] H := hP
  have hD : va_D (Ax s.heap.size) [(q0, .inr (4, [.ref (u 0), .ref (u 1), .ref (u 2), .int 0, .int 0, .int 0, .int 0])), ((u 0), .inl (g.2.1.2.2.2.1, 4, .inr (.inr (.inr (.inr (fun _ => none)))))), ((u 1), .inl (g.2.1.2.2.2.2.1, 8, .inr (.inr (.inr (.inr (fun _ => none)))))), ((u 2), .inr (2, [.ref (u 3), .int 0, .int 0, .int 0, .int 0])), ((u 3), .inl (g.2.1.1, 1000, .inl (fun _ => 0))), (q1, .inr (5, [.int 0, .int 0, .int 0, .int 0, .ref (v 0), .ref (v 1), .ref (v 2), .ref (v 3), .ref (v 4), .ref (v 5), .int 0, .int 0, .ref (v 6), .int 0, .ref (v 7), .ref (v 8)])), ((v 0), .inl (g.2.1.1, 20, .inl (fun _ => 0))), ((v 1), .inl (g.2.1.1, 88, .inl (fun _ => 0))), ((v 2), .inl (g.2.1.2.1, 16, .inl (fun _ => 0))), ((v 3), .inl (g.2.1.1, 768, .inl (fun _ => 0))), ((v 4), .inl (g.2.1.1, 48, .inl (fun _ => 0))), ((v 5), .inl (g.2.1.1, 2304, .inl (fun _ => 0))), ((v 6), .inl (g.2.1.1, 1000, .inl (fun _ => 0))), ((v 7), .inl (g.2.1.1, 20, .inl (fun _ => 0))), ((v 8), .inl (g.2.1.1, 88, .inl (fun _ => 0))), (q2, .inl (g.2.1.2.2.1, 1, .inr (.inl (fun _ => 0))))] := hD
  refine lv_astore_n (lv' := [(3, .ref q2), (2, .ref q1), (1, .ref q0), (0, .ref b)]) hx hb dL_law_19 rfl hl (by decide) rfl (fun ls hl => ?_)
  refine lv_iconst (v := 0) hx hb dL_law_20 (by decide) ?_
  refine lv_istore (lv' := [(4, .int 0), (3, .ref q2), (2, .ref q1), (1, .ref q0), (0, .ref b)]) hx hb dL_law_21 hl (by decide) rfl (fun ls hl => ?_)
  obtain ⟨h, hh⟩ : ∃ h : Sh, h = (0, 0, fun k _ => if k = 0 then q0 else if k = 1 then u 0 else if k = 2 then u 1 else if k = 3 then u 2 else if k = 4 then u 3 else if k = 20 then q1 else if k = 30 then q2 else v (k - 21)) := ⟨_, rfl⟩
  have hW : FW g h (Ax s.heap.size) sg0 H := by
    refine FW.of_list hP hD (by rw [hh]) (by rw [hh]) (fun k => if k ≤ 4 then k else if k = 30 then 15 else k - 15) (fun k hk => ?_) (fun k k' hk hk' q => ?_)
    · have e1 := spF_0 (h := h) (by rw [hh])
      have e2 := bdF_0 (h := h) (by rw [hh])
      rcases (show k = 0 ∨ k = 1 ∨ k = 2 ∨ k = 3 ∨ k = 4 ∨ k = 20 ∨ k = 21 ∨ k = 22 ∨ k = 23 ∨ k = 24 ∨ k = 25 ∨ k = 26 ∨ k = 27 ∨ k = 28 ∨ k = 29 ∨ k = 30 by omega) with rfl | rfl | rfl | rfl | rfl | rfl | rfl | rfl | rfl | rfl | rfl | rfl | rfl | rfl | rfl | rfl
      · rw [hh]; rfl
      · rw [ct1, e1, hh]; rfl
      · rw [ct2, e2, hh]; rfl
      · rw [hh]; rfl
      · rw [hh]; rfl
      · rw [hh]; rfl
      · rw [hh]; rfl
      · rw [hh]; rfl
      · rw [hh]; rfl
      · rw [hh]; rfl
      · rw [hh]; rfl
      · rw [hh]; rfl
      · rw [hh]; rfl
      · rw [hh]; rfl
      · rw [hh]; rfl
      · rw [hh]; rfl
    · split at q <;> split at q <;> (try split at q) <;> (try split at q) <;> omega
  have a0 : h.2.2 0 0 = q0 := by rw [hh]; rfl
  have a20 : h.2.2 20 0 = q1 := by rw [hh]; rfl
  have a30 : h.2.2 30 0 = q2 := by rw [hh]; rfl
  have s1 : h.1 = 0 := by rw [hh]
  have s2 : h.2.1 = 0 := by rw [hh]
  rw [← a0, ← a20, ← a30] at hl
  refine W.widen (k := 100 + 300 * 0) (n := 6000 + 1100 * 0) (by decide) (by decide) ?_
  exact law_loop OK C0 hnt (Nat.le_refl _) hK hZ hX hbl hbA hL kend 513 0 (by omega) (by omega) s.drawn (Drawn.sameBut.refl s.drawn lw_cs) h sg0 H _ ls (by rw [s1, s2]; exact hI0) hW hS hl
