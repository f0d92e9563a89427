/-! THE START -/
theorem xwMN_0 : Cond.methodLinkNest RX4 23 yX2_init "BirdParlour" ∈ lw_tbl := List.mem_of_getElem? (i := 42) (by decide +kernel)
theorem xwMN_1 : Cond.methodLinkNest RX0 71 yX4_at "BirdParlour" ∈ lw_tbl := List.mem_of_getElem? (i := 212) (by decide +kernel)
theorem xwMN_2 : Cond.methodLinkNest RX0 67 yX4_isIn "BirdParlour" ∈ lw_tbl := List.mem_of_getElem? (i := 240) (by decide +kernel)
theorem xwMN_3 : Cond.methodLinkNest RX2 28 yX4_put "BirdParlour" ∈ lw_tbl := List.mem_of_getElem? (i := 308) (by decide +kernel)
theorem xwMN_4 : Cond.methodLinkNest RX2 32 yX4_at "BirdParlour" ∈ lw_tbl := List.mem_of_getElem? (i := 336) (by decide +kernel)
theorem xwMN_5 : Cond.methodLinkNest RL 11 yX6_init "BirdParlourLaw" ∈ lw_tbl := List.mem_of_getElem? (i := 373) (by decide +kernel)
theorem xwMN_6 : Cond.methodLinkNest RL 49 yX5_init "BirdParlourLaw" ∈ lw_tbl := List.mem_of_getElem? (i := 467) (by decide +kernel)
theorem xwMN_7 : Cond.methodLinkNest RX0 48 yX1_init "BirdParlour" ∈ lw_tbl := List.mem_of_getElem? (i := 526) (by decide +kernel)
theorem xwMN_8 : Cond.methodLinkNest RX0 82 yX4_put "BirdParlour" ∈ lw_tbl := List.mem_of_getElem? (i := 609) (by decide +kernel)
theorem xwMN_9 : Cond.methodLinkNest RX1 18 yX4_at "BirdParlour" ∈ lw_tbl := List.mem_of_getElem? (i := 619) (by decide +kernel)
theorem xwMN_10 : Cond.methodLinkNest RX1 30 yX4_put "BirdParlour" ∈ lw_tbl := List.mem_of_getElem? (i := 627) (by decide +kernel)
theorem xwMN_11 : Cond.methodLinkNest RX1 42 yX4_remainder "BirdParlour" ∈ lw_tbl := List.mem_of_getElem? (i := 636) (by decide +kernel)
theorem xwAO_Spring : Cond.arrayOver (.object RX3) ∈ lw_tbl := List.mem_of_getElem? (i := 37) (by decide +kernel)
theorem xwAO_Bird : Cond.arrayOver (.object RX0) ∈ lw_tbl := List.mem_of_getElem? (i := 39) (by decide +kernel)
theorem xwAO_Cam : Cond.arrayOver (.object RX1) ∈ lw_tbl := List.mem_of_getElem? (i := 524) (by decide +kernel)
theorem xwAO_LBird : Cond.arrayOver (.object RX5) ∈ lw_tbl := List.mem_of_getElem? (i := 382) (by decide +kernel)
theorem xwAA_I : Cond.arrayOver (.array .int) ∈ lw_tbl := List.mem_of_getElem? (i := 378) (by decide +kernel)
theorem xwAA_Z : Cond.arrayOver (.array .boolean) ∈ lw_tbl := List.mem_of_getElem? (i := 380) (by decide +kernel)
theorem xwAA_II : Cond.arrayOver (.array (.array .int)) ∈ lw_tbl := List.mem_of_getElem? (i := 472) (by decide +kernel)
theorem nst_in : ∀ q ∈ nstW, Cond.methodLinkNest q.1 q.2.1 q.2.2.1 q.2.2.2 ∈ lw_tbl := List.forall_mem_cons.mpr ⟨xwMN_0, List.forall_mem_cons.mpr ⟨xwMN_1, List.forall_mem_cons.mpr ⟨xwMN_2, List.forall_mem_cons.mpr ⟨xwMN_3, List.forall_mem_cons.mpr ⟨xwMN_4, List.forall_mem_cons.mpr ⟨xwMN_5, List.forall_mem_cons.mpr ⟨xwMN_6, List.forall_mem_cons.mpr ⟨xwMN_7, List.forall_mem_cons.mpr ⟨xwMN_8, List.forall_mem_cons.mpr ⟨xwMN_9, List.forall_mem_cons.mpr ⟨xwMN_10, List.forall_mem_cons.mpr ⟨xwMN_11, fun _ h => absurd h List.not_mem_nil⟩⟩⟩⟩⟩⟩⟩⟩⟩⟩⟩⟩
theorem kn_arr {args : Array Value} {s : State} {ty : FieldType} (h : (Cond.arrayClass ty).before args s = true) : ∃ cA : ClassId, ArrOfT s cA ty ∧ s.vm.findClass ("[" ++ ty.toString) = some cA := by
  obtain ⟨cA, kA, comp, h1, h2, h3⟩ := Cond.arrayClass_spec h
  exact ⟨cA, fun n z => ⟨fun k h => (by cases h), kA, h2, comp, h3⟩, h1⟩
theorem kn_over {args : Array Value} {s : State} {C : String} (h : (Cond.arrayOver (.object C)).before args s = true) : ∃ cA : ClassId, ArrOfT s cA (.object C) ∧ va_RA s cA (.object C) := by
  obtain ⟨comp, cA, kA, h1, h2, h3, h4, h5⟩ := Cond.arrayOver_spec h
  exact ⟨cA, fun n z => ⟨fun k h => (by cases h), kA, h3, comp, h4⟩, kA, comp, h3, h4, h1, h5⟩
theorem kn_overA {args : Array Value} {s : State} {t : FieldType} (h : (Cond.arrayOver (.array t)).before args s = true) : ∃ cA : ClassId, ArrOfT s cA (.array t) ∧ s.vm.findClass ("[" ++ (FieldType.array t).toString) = some cA := by
  obtain ⟨comp, cA, kA, h1, h2, h3, h4, h5⟩ := arrayOverA_spec h
  exact ⟨cA, fun n z => ⟨fun k h => (by cases h), kA, h3, comp, h4⟩, h5⟩
theorem va_AOA.of {args : Array Value} {s : State} {t : FieldType} (h : (Cond.arrayOver (.array t)).before args s = true) : va_AOA t s := h
theorem KW_start {args : Array Value} {s : State} (hts : ∀ w ∈ lw_tbl, w.before args s = true) : ∃ g : Gx, KW g s := by
  have htB : ∀ w ∈ wB, w.before args s = true := fun w h => hts w (wB_tbl w h)
  obtain ⟨c0, iS0, hKn0⟩ := u_known (C := RX0) (T := TX0) (N := 15) (n := 15) htB inX0_B (htB _ wIS_X0)
  obtain ⟨c1, iS1, hKn1⟩ := u_known (C := RX1) (T := TX1) (N := 3) (n := 3) htB inX1_B (htB _ wIS_X1)
  obtain ⟨c2, iS2, hKn2⟩ := u_known (C := RX2) (T := TX2) (N := 5) (n := 5) htB inX2_B (htB _ wIS_X2)
  obtain ⟨c3, iS3, hKn3⟩ := u_known (C := RX3) (T := TX3) (N := 8) (n := 8) htB inX3_B (htB _ wIS_X3)
  obtain ⟨c4, iS4, hKn4⟩ := u_known (C := RX4) (T := TX4) (N := 7) (n := 7) htB inX4_B (htB _ wIS_X4)
  obtain ⟨c5, iS5, hKn5⟩ := u_known (C := RX5) (T := TX5) (N := 12) (n := 12) htB inX5_B (htB _ wIS_X5)
  obtain ⟨c6, iS6, hKn6⟩ := u_known (C := RX6) (T := TX6) (N := 6) (n := 6) htB inX6_B (htB _ wIS_X6)
  obtain ⟨cI, aI1, aI2⟩ := kn_arr (htB _ warrayClass__int)
  obtain ⟨cZ, aZ1, aZ2⟩ := kn_arr (htB _ warrayClass__boolean)
  obtain ⟨cJ, aJ1, aJ2⟩ := kn_arr (htB _ warrayClass__long)
  obtain ⟨cS, aS1, aS2⟩ := kn_over (C := RX3) (hts _ xwAO_Spring)
  obtain ⟨cB, aB1, aB2⟩ := kn_over (C := RX0) (hts _ xwAO_Bird)
  obtain ⟨cC, aC1, aC2⟩ := kn_over (C := RX1) (hts _ xwAO_Cam)
  obtain ⟨cL, aL1, aL2⟩ := kn_over (C := RX5) (hts _ xwAO_LBird)
  obtain ⟨cAI, aAI1, aAI2⟩ := kn_overA (t := .int) (hts _ xwAA_I)
  obtain ⟨cAZ, aAZ1, aAZ2⟩ := kn_overA (t := .boolean) (hts _ xwAA_Z)
  obtain ⟨cAA, aAA1, aAA2⟩ := kn_overA (t := .array .int) (hts _ xwAA_II)
  let D : va_G := (fun k => if k = 0 then c0 else if k = 1 then c1 else if k = 2 then c2 else if k = 3 then c3 else if k = 4 then c4 else if k = 5 then c5 else c6, fun k => if k = 0 then iS0 else if k = 1 then iS1 else if k = 2 then iS2 else if k = 3 then iS3 else if k = 4 then iS4 else if k = 5 then iS5 else iS6)
  refine ⟨(D, (cI, cZ, cJ, cS, cB, cC), (fun _ => 0), (fun k => if k = 0 then cAI else if k = 1 then cAA else if k = 2 then cAZ else cL), fun _ => none), ⟨⟨fun k q hk => ?_, fun k q hk => ?_⟩, fun q h => va_Nw.of rfl (hts _ (nst_in q h)), va_AO.of (hts _ xwAO_Spring), va_AO.of (hts _ xwAO_Bird), va_AO.of (hts _ xwAO_Cam), va_AO.of (hts _ xwAO_LBird), va_AOA.of (hts _ xwAA_I), va_AOA.of (hts _ xwAA_Z), va_AOA.of (hts _ xwAA_II)⟩⟩
  · match k, hk with
    | 0, hk => cases hk; exact hKn0
    | 1, hk => cases hk; exact hKn1
    | 2, hk => cases hk; exact hKn2
    | 3, hk => cases hk; exact hKn3
    | 4, hk => cases hk; exact hKn4
    | 5, hk => cases hk; exact hKn5
    | 6, hk => cases hk; exact hKn6
    | k + 7, hk => simp [vwCl] at hk
  · match k, hk with
    | 0, hk => cases hk; exact ⟨aI1, aI2⟩
    | 1, hk => cases hk; exact ⟨aZ1, aZ2⟩
    | 2, hk => cases hk; exact ⟨aJ1, aJ2⟩
    | 3, hk => cases hk; exact ⟨aS1, aS2⟩
    | 4, hk => cases hk; exact ⟨aB1, aB2⟩
    | 5, hk => cases hk; exact ⟨aC1, aC2⟩
    | 6, hk => cases hk; exact ⟨aAI1, aAI2⟩
    | 7, hk => cases hk; exact ⟨aAA1, aAA2⟩
    | 8, hk => cases hk; exact ⟨aAZ1, aAZ2⟩
    | 9, hk => cases hk; exact ⟨aL1, aL2⟩
    | k + 10, hk => simp [tysG] at hk
theorem FW.of_list {g : Gx} {h : Sh} {A : Nat → Prop} {σ : Sg} {ws : va_W} {H : Heap} (hP : va_P g.1 vwCl ws H) (hD : va_D A ws) (h1 : h.1 = 0) (h2 : h.2.1 = 0) (hn : ∀ k, k ≤ 4 → ws[k]? = some (h.2.2 k 0, ct (gX g (fun _ => none)) h σ k 0)) : FW (gX g (fun _ => none)) h A σ H := by
  obtain ⟨L, f, e, -, h3⟩ := pool_app (A := A) ws [] (fun _ => .inr (0, [])) hD
  have e : va_pl L f = ws := e
  have key : ∀ k i, al h k i → i = 0 ∧ k ≤ 4 := by
    intro k i ha
    unfold al at ha
    rw [h1, h2] at ha
    omega
  refine ⟨L, f, by rw [e]; exact hP, by rw [e]; exact hD, fun k i ha => ?_, fun k i k' i' ha ha' heq => ?_, fun q e9 hq => by cases hq⟩
  · obtain ⟨rfl, hk⟩ := key k i ha
    exact h3 _ (List.mem_of_getElem? (hn k hk))
  · obtain ⟨rfl, hk⟩ := key k i ha
    obtain ⟨rfl, hk'⟩ := key k' i' ha'
    exact ⟨hD.1 _ _ _ _ (hn k hk) (hn k' hk') heq, rfl⟩
theorem spF_0 {h : Sh} (e : h.1 = 0) : spF h = fun _ => none := by
  funext j; unfold spF iO; rw [e, if_neg (by omega)]; rfl
theorem bdF_0 {h : Sh} (e : h.2.1 = 0) : bdF h = fun _ => none := by
  funext j; unfold bdF iO; rw [e, if_neg (by omega)]; rfl
def ab0 : Ab := fun _ _ _ => 0
theorem cm0 : Cm ab0 0 0 sg0 := ⟨fun i hi => absurd hi (Nat.not_lt_zero _), fun i hi => absurd hi (Nat.not_lt_zero _), fun i hi => absurd hi (Nat.not_lt_zero _), fun i hi => absurd hi (Nat.not_lt_zero _), fun i hi => absurd hi (Nat.not_lt_zero _), ⟨rfl, rfl, fun j hj => absurd hj (Nat.not_lt_zero _)⟩, ⟨rfl, rfl, rfl, rfl⟩⟩
theorem wf0 : Wf ab0 0 0 1 := ⟨by decide, by decide, Nat.zero_le _, ⟨fun i hi => absurd hi (Nat.not_lt_zero _), fun i hi f => rfl⟩, fun i hi => absurd hi (Nat.not_lt_zero _), ⟨fun b x => (show 0 < 64 by decide), fun b hb x => rfl, fun b hb => absurd hb (Nat.not_lt_zero _)⟩, fun b x => Nat.zero_le _, ⟨fun k x => Nat.zero_le _, fun k hk x => rfl, fun b hb => absurd hb (Nat.not_lt_zero _)⟩, ⟨Nat.zero_le _, fun j hj => absurd hj (Nat.not_lt_zero _)⟩, fun a b => Nat.zero_le _⟩
theorem bi0 : BI 0 ab0 := ⟨rfl, rfl, rfl, fun _ => ⟨rfl, rfl⟩, fun b hb => absurd hb (Nat.not_lt_zero _)⟩
