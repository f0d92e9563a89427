section
-- ===== PART A: goes FIRST, ahead of the names: the tables' words, and 'selects' of the private methods out of them =====
/-- a private method of a class that the tables say can be made, by its rows of tables_1 -/
def lw_okq (q : MethodName × Nat) : Prop := (q.1.cls ≠ "java/lang/invoke/MethodHandle" ∧ q.1.cls ≠ "java/lang/invoke/VarHandle") ∧ Cond.instantiable q.1.cls q.2 ∈ tables_1 ∧ Cond.privateMethod q.1 ∈ tables_1 ∧ Cond.instanceMethod q.1 ∈ tables_1
theorem lw_p0 : lw_okq (⟨"BirdParlour", "springAt", "(I)LBirdParlour$Spring;"⟩, 7) := ⟨⟨by decide +kernel, by decide +kernel⟩, List.mem_of_getElem? (i := 18) (by decide +kernel), List.mem_of_getElem? (i := 79) (by decide +kernel), List.mem_of_getElem? (i := 80) (by decide +kernel)⟩
theorem lw_p1 : lw_okq (⟨"java/lang/Throwable", "fillInStackTrace", "(I)Ljava/lang/Throwable;"⟩, 6) := ⟨⟨by decide +kernel, by decide +kernel⟩, List.mem_of_getElem? (i := 121) (by decide +kernel), List.mem_of_getElem? (i := 119) (by decide +kernel), List.mem_of_getElem? (i := 120) (by decide +kernel)⟩
theorem lw_p2 : lw_okq (⟨"BirdParlour", "birdsDrivenBy", "(I)I"⟩, 7) := ⟨⟨by decide +kernel, by decide +kernel⟩, List.mem_of_getElem? (i := 18) (by decide +kernel), List.mem_of_getElem? (i := 178) (by decide +kernel), List.mem_of_getElem? (i := 179) (by decide +kernel)⟩
theorem lw_p3 : lw_okq (⟨"BirdParlour", "loadOn", "(I)I"⟩, 7) := ⟨⟨by decide +kernel, by decide +kernel⟩, List.mem_of_getElem? (i := 18) (by decide +kernel), List.mem_of_getElem? (i := 186) (by decide +kernel), List.mem_of_getElem? (i := 187) (by decide +kernel)⟩
theorem lw_p4 : lw_okq (⟨"BirdParlour", "birdAt", "(I)LBirdParlour$Bird;"⟩, 7) := ⟨⟨by decide +kernel, by decide +kernel⟩, List.mem_of_getElem? (i := 18) (by decide +kernel), List.mem_of_getElem? (i := 210) (by decide +kernel), List.mem_of_getElem? (i := 211) (by decide +kernel)⟩
theorem lw_p5 : lw_okq (⟨"BirdParlour", "goOneTick", "()I"⟩, 7) := ⟨⟨by decide +kernel, by decide +kernel⟩, List.mem_of_getElem? (i := 18) (by decide +kernel), List.mem_of_getElem? (i := 238) (by decide +kernel), List.mem_of_getElem? (i := 239) (by decide +kernel)⟩
theorem lw_p6 : lw_okq (⟨"BirdParlour", "shareBetweenCoupled", "()V"⟩, 7) := ⟨⟨by decide +kernel, by decide +kernel⟩, List.mem_of_getElem? (i := 18) (by decide +kernel), List.mem_of_getElem? (i := 242) (by decide +kernel), List.mem_of_getElem? (i := 243) (by decide +kernel)⟩
theorem lw_p7 : lw_okq (⟨"BirdParlour", "goShaft", "(ILBirdParlour$Spring;)I"⟩, 7) := ⟨⟨by decide +kernel, by decide +kernel⟩, List.mem_of_getElem? (i := 18) (by decide +kernel), List.mem_of_getElem? (i := 255) (by decide +kernel), List.mem_of_getElem? (i := 256) (by decide +kernel)⟩
theorem lw_p8 : lw_okq (⟨"BirdParlour", "goBarrel", "(ILBirdParlour$Bird;LBirdParlour$Spring;)I"⟩, 7) := ⟨⟨by decide +kernel, by decide +kernel⟩, List.mem_of_getElem? (i := 18) (by decide +kernel), List.mem_of_getElem? (i := 269) (by decide +kernel), List.mem_of_getElem? (i := 270) (by decide +kernel)⟩
theorem lw_p9 : lw_okq (⟨"BirdParlour", "soundPlace", "(ILBirdParlour$Bird;LBirdParlour$Spring;I)I"⟩, 7) := ⟨⟨by decide +kernel, by decide +kernel⟩, List.mem_of_getElem? (i := 18) (by decide +kernel), List.mem_of_getElem? (i := 282) (by decide +kernel), List.mem_of_getElem? (i := 283) (by decide +kernel)⟩
theorem lw_p10 : lw_okq (⟨"BirdParlour", "heldByAll", "()I"⟩, 7) := ⟨⟨by decide +kernel, by decide +kernel⟩, List.mem_of_getElem? (i := 18) (by decide +kernel), List.mem_of_getElem? (i := 311) (by decide +kernel), List.mem_of_getElem? (i := 312) (by decide +kernel)⟩
def lw_privs_1 : List (MethodName × Nat) := [(⟨"BirdParlour", "springAt", "(I)LBirdParlour$Spring;"⟩, 7), (⟨"java/lang/Throwable", "fillInStackTrace", "(I)Ljava/lang/Throwable;"⟩, 6), (⟨"BirdParlour", "birdsDrivenBy", "(I)I"⟩, 7), (⟨"BirdParlour", "loadOn", "(I)I"⟩, 7), (⟨"BirdParlour", "birdAt", "(I)LBirdParlour$Bird;"⟩, 7), (⟨"BirdParlour", "goOneTick", "()I"⟩, 7), (⟨"BirdParlour", "shareBetweenCoupled", "()V"⟩, 7), (⟨"BirdParlour", "goShaft", "(ILBirdParlour$Spring;)I"⟩, 7), (⟨"BirdParlour", "goBarrel", "(ILBirdParlour$Bird;LBirdParlour$Spring;)I"⟩, 7), (⟨"BirdParlour", "soundPlace", "(ILBirdParlour$Bird;LBirdParlour$Spring;I)I"⟩, 7), (⟨"BirdParlour", "heldByAll", "()I"⟩, 7)]
theorem lw_r1 : ∀ q ∈ lw_privs_1, lw_okq q := List.forall_mem_cons.mpr ⟨lw_p0, List.forall_mem_cons.mpr ⟨lw_p1, List.forall_mem_cons.mpr ⟨lw_p2, List.forall_mem_cons.mpr ⟨lw_p3, List.forall_mem_cons.mpr ⟨lw_p4, List.forall_mem_cons.mpr ⟨lw_p5, List.forall_mem_cons.mpr ⟨lw_p6, List.forall_mem_cons.mpr ⟨lw_p7, List.forall_mem_cons.mpr ⟨lw_p8, List.forall_mem_cons.mpr ⟨lw_p9, List.forall_mem_cons.mpr ⟨lw_p10, fun _ h => absurd h List.not_mem_nil⟩⟩⟩⟩⟩⟩⟩⟩⟩⟩⟩
def lw_privs : List (MethodName × Nat) := lw_privs_1
def lw_tbl : List Cond := k2_sels lw_privs ++ tables_1
theorem lw_privs_ok : ∀ q ∈ lw_privs, lw_okq q := lw_r1
-- ===== end of PART A; then your names; then what follows =====
end
section
/-! ===== BEGIN words of one list among another's, by their places ===== -/
theorem goodIn_r {big : List Cond} (ws : List Cond) (ps : List Nat) (hp : ws = ps.filterMap (fun i => big[i]?)) (h : ws.all goodWord = true) : GoodIn big ws := by
  intro w hw
  have h1 := List.all_eq_true.mp h w hw
  rw [hp] at hw
  obtain ⟨i, -, hi⟩ := List.mem_filterMap.mp hw
  have hm : w ∈ big := by first | exact List.mem_of_getElem? hi | exact List.getElem?_mem hi
  exact ⟨hm, good_of_word h1⟩
theorem goodIn_app {big a b : List Cond} (ha : GoodIn big a) (hb : GoodIn big b) : GoodIn big (a ++ b) := fun w h => (List.mem_append.mp h).elim (ha w) (hb w)
theorem goodIn_ca {big a b : List Cond} {c : Cond} (ha : GoodIn big (c :: a)) (hb : GoodIn big b) : GoodIn big (c :: (a ++ b)) := fun w h => (List.mem_cons.mp h).elim (fun e => ha w (List.mem_cons.mpr (Or.inl e))) (fun h => (List.mem_append.mp h).elim (fun h => ha w (List.mem_cons.mpr (Or.inr h))) (hb w))
theorem goodIn_sub {big ws : List Cond} (hm : ∀ w ∈ ws, w ∈ big) (h : ws.all goodWord = true) : GoodIn big ws := fun w hw => ⟨hm w hw, good_of_word (List.all_eq_true.mp h w hw)⟩
/-! ===== END ===== -/
/-! arrays of arrays: what the tables say of them -/
def va_AOA (t : FieldType) (U : State) : Prop := (Cond.arrayOver (.array t)).before #[] U = true
theorem va_AOA.use {t : FieldType} {A : Array Value} {U : State} (h : va_AOA t U) : (Cond.arrayOver (.array t)).before A U = true := h
/-! ===== BEGIN new T[n][m]: the outer array a place, the inner ones among the pooled ===== -/
/-- f, but v at every address of l -/
def vr_up {α : Type} (f : Nat → α) (l : List Nat) (v : α) : Nat → α := fun a => if a ∈ l then v else f a
theorem vr_up_in {α : Type} {f : Nat → α} {l : List Nat} {v : α} {a : Nat} (h : a ∈ l) : vr_up f l v a = v := if_pos h
theorem vr_up_ne {α : Type} {f : Nat → α} {l : List Nat} {v : α} {a : Nat} (h : a ∉ l) : vr_up f l v a = f a := if_neg h
theorem vr_rows {L l : List Nat} {f : Nat → va_E} {e : va_E} (h : ∀ a, a ∈ l → a ∉ L) : va_pl L f ++ l.map (fun a => (a, e)) = va_pl (L ++ l) (vr_up f l e) := by
  unfold va_pl
  rw [List.map_append]
  congr 1
  · apply List.map_congr_left
    intro a ha
    rw [vr_up_ne (fun q => h a q ha)]
  · apply List.map_congr_left
    intro a ha
    rw [vr_up_in ha]
theorem vr_lay {X rows : va_W} {x : Nat × va_E} {pl : va_W} {D : va_G} {cl : List vw_C} {H : Heap} (hP : va_P D cl (((X ++ pl) ++ [x]) ++ rows) H) : va_P D cl ((X ++ [x]) ++ (pl ++ rows)) H := by
  rw [List.append_assoc (X ++ pl)] at hP
  have h := va_P.swap hP
  rw [← List.append_assoc X] at h
  have h2 := va_P.swap h
  rw [List.append_assoc (X ++ [x])] at h2
  exact h2
theorem vr_layD {X rows : va_W} {x : Nat × va_E} {pl : va_W} {A : Nat → Prop} (hD : va_D A (((X ++ pl) ++ [x]) ++ rows)) : va_D A ((X ++ [x]) ++ (pl ++ rows)) := by
  rw [List.append_assoc (X ++ pl)] at hD
  have h := va_D.swap hD
  rw [← List.append_assoc X] at h
  have h2 := va_D.swap h
  rw [List.append_assoc (X ++ [x])] at h2
  exact h2
theorem vr_outer (c : ClassId) (N h0 : Nat) : ∀ i : Nat, Jvm.Free.Multi.outerC c N h0 i = arrV c N (fun j => va_rf (if j < i then some (h0 + 1 + j) else none))
  | 0 => by
    show ({ cls := c, slots := Array.replicate N .null, vm := .none } : Cell) = _
    rw [arrV_new]
    refine congrArg (arrV c N) (funext fun j => ?_)
    simp [va_rf]
  | i + 1 => by
    show (Jvm.Free.Multi.outerC c N h0 i).setSlot i (.ref (h0 + 1 + i)) = _
    rw [vr_outer c N h0 i, arrV_store]
    refine congrArg (arrV c N) (funext fun j => ?_)
    by_cases e : j = i
    · subst e
      simp [updV, va_rf]
    · by_cases h : j < i
      · simp [updV, e, h, Nat.lt_succ_of_lt h]
      · simp [updV, e, h, show ¬ j < i + 1 by omega]
section VGM
variable {p : Program} {l : Launch} {e : Env} {R : Room} {s : State} {m : MethodId} {args : Array Value} {below : List Frame} {meth : Method} {c : Code} {H : Heap} {locs : List Loc} {cells slots : Nat} {Q : State → Prop}
variable {cc : ByteArray} {pc : Nat} {ls : Array Slot} {rest : List Value} {D : va_G} {cl : List vw_C} {A : Nat → Prop} {a : Nat} {tys : List (ClassId × FieldType)} {ws : va_W} {H0 : Heap}
theorem va_mna {X : va_W} {L : List Nat} {f : Nat → va_E} {cc : ByteArray} (hexec : p.tables.exec = Jvm.exec) (hb : c.code = cc) {own : String} {index : Nat} {ty : FieldType} {cy : ClassId} (hown : s.vm.findClass own = some m.cls) (hclink : (Cond.classLink own index ("[" ++ (FieldType.array ty).toString)).before args s = true) (hover : va_AOA ty s) (harr : (Cond.arrayClass ty).before args s = true) (hcy : s.vm.findClass (FieldType.array ty).toString = some cy)
    (hK : va_K D cl tys s) (hP : va_P D cl (X ++ va_pl L f) H) (hD : va_D A (X ++ va_pl L f)) (hS : va_S A H0 H locs) (hA : ∀ q, H0.size ≤ q → A q) {n k : Int32} {N' K' : Nat} {z : vp_A} (hn : ¬ n < 0) (hk : ¬ k < 0) (hN : n.toNatClampNeg = N') (hM : k.toNatClampNeg = K')
    (hb1 : N' * 4 ≤ 536870912) (hb2 : K' * componentBytes ty ≤ 536870912) (hb3 : K' ≤ 536870912) (hdf : fits ty (defaultValue ty) = true) (hdd : (defaultValue ty).isDefault = true) (hcells : cells + (1 + N') ≤ R.cells) (hslots : slots + (N' + N' * K') ≤ R.slots) (hz : ∀ c : ClassId, Jvm.Free.Multi.innerC c K' (defaultValue ty) = vp_cell c z) (hdg : decode cc pc = .ok (.multianewarray index 2, 4))
    (kk : ∀ (q : Nat) (r : Nat → Nat) (cA : ClassId) (H1 : Heap), (∀ i j : Nat, i < N' → j < N' → r i = r j → i = j) → (∀ i : Nat, i < N' → r i ∉ L) → va_K D cl (tys ++ [(cA, .array ty)]) s →
      va_P D cl ((X ++ [(q, .inl (cA, N', .inr (.inr (.inr (.inr (fun i => if i < N' then some (r i) else none))))))]) ++ va_pl (L ++ (List.range N').map r) (vr_up f ((List.range N').map r) (.inl (cy, z)))) H1 → va_D A ((X ++ [(q, .inl (cA, N', .inr (.inr (.inr (.inr (fun i => if i < N' then some (r i) else none))))))]) ++ va_pl (L ++ (List.range N').map r) (vr_up f ((List.range N').map r) (.inl (cy, z)))) → va_S A H0 H1 locs →
      W p l e R s m args below meth c H1 locs (cells + 1 + N') (slots + N' + N' * K') Q (F0 m (pc + 4) ls (.ref q :: rest))) : W p l e R s m args below meth c H locs cells slots Q (F0 m pc ls (.int k :: .int n :: rest)) := by
  subst hN
  subst hM
  intro T hT Xs
  obtain ⟨vm₁, cA, comp, -, fA, fC, hO, -, X', step⟩ := Xs.multianewarray2F hexec hown hclink (va_AOA.use hover) harr (g := F0 m pc ls (.int k :: .int n :: rest)) rfl (by rw [hb]; exact hdg) rfl hn hk hb1 hb2 hb3 hdf hdd hcells hslots
  have ec : some cy = some comp := hcy.symm.trans fC
  cases ec
  generalize hF : Jvm.Free.Multi.fill (T.setVm vm₁) cA cy n.toNatClampNeg k.toNatClampNeg (defaultValue ty) n.toNatClampNeg = F at X' step
  have hTh : (T.setVm vm₁).heap = H := hT
  obtain ⟨f1, f2, -, -⟩ := Jvm.Free.Multi.fill_facts (T.setVm vm₁) cA cy n.toNatClampNeg k.toNatClampNeg (defaultValue ty) n.toNatClampNeg
  rw [hF, hTh] at f1 f2
  have hold : ∀ x : Nat, x < H.size → F.heap[x]? = H[x]? := fun x hx => by
    have := Jvm.Free.Multi.fill_old (T.setVm vm₁) cA cy n.toNatClampNeg k.toNatClampNeg (defaultValue ty) (a := x) (by rw [hTh]; exact hx) n.toNatClampNeg
    rw [hF, hTh] at this
    exact this
  have hrow : ∀ j : Nat, j < n.toNatClampNeg → F.heap[H.size + 1 + j]? = some (vp_cell cy z) := fun j hj => by
    have := Jvm.Free.Multi.fill_inner (T.setVm vm₁) cA cy n.toNatClampNeg k.toNatClampNeg (defaultValue ty) n.toNatClampNeg j hj
    rw [hF, hTh, hz] at this
    exact this
  have hout : Jvm.Free.Multi.outerC cA n.toNatClampNeg H.size n.toNatClampNeg = vp_cell cA (n.toNatClampNeg, .inr (.inr (.inr (.inr (fun i => if i < n.toNatClampNeg then some (H.size + 1 + i) else none))))) := by
    rw [vp_cell_q]
    exact vr_outer cA n.toNatClampNeg H.size n.toNatClampNeg
  rw [hout] at f2
  have hlt : ∀ a, a ∈ L → a < H.size := fun a ha => by
    obtain ⟨k9, hk9⟩ := va_pl_get (X := X) (f := f) ha
    exact (hP k9 _ hk9).lt
  have hnl : ∀ i : Nat, i < n.toNatClampNeg → H.size + 1 + i ∉ L := fun i _ h => by
    have := hlt _ h
    omega
  have hnm : ∀ a, a ∈ (List.range n.toNatClampNeg).map (fun i => H.size + 1 + i) → a ∉ L := fun a ha h => by
    obtain ⟨i, -, rfl⟩ := List.mem_map.mp ha
    have := hlt _ h
    omega
  have hP0 : va_P D cl (X ++ va_pl L f) F.heap := hP.kept (fun k9 x hx => hold x.1 ((hP k9 x hx).lt))
  have hP1 : va_P D cl ((X ++ va_pl L f) ++ [(H.size, .inl (cA, n.toNatClampNeg, .inr (.inr (.inr (.inr (fun i => if i < n.toNatClampNeg then some (H.size + 1 + i) else none))))))]) F.heap := hP0.app (fun k9 x hx => by
    have h0 : k9 < 1 := (List.getElem?_eq_some_iff.mp hx).1
    rw [show k9 = 0 by omega] at hx
    cases hx
    exact f2)
  have hP2 : va_P D cl (((X ++ va_pl L f) ++ [(H.size, .inl (cA, n.toNatClampNeg, .inr (.inr (.inr (.inr (fun i => if i < n.toNatClampNeg then some (H.size + 1 + i) else none))))))]) ++ ((List.range n.toNatClampNeg).map (fun i => H.size + 1 + i)).map (fun a => (a, .inl (cy, z)))) F.heap := hP1.app (fun k9 x hx => by
    obtain ⟨a, ha, rfl⟩ := List.mem_map.mp (List.mem_of_getElem? hx)
    obtain ⟨i, hi, rfl⟩ := List.mem_map.mp ha
    exact hrow i (List.mem_range.mp hi))
  have hD2 : va_D A (((X ++ va_pl L f) ++ [(H.size, .inl (cA, n.toNatClampNeg, .inr (.inr (.inr (.inr (fun i => if i < n.toNatClampNeg then some (H.size + 1 + i) else none))))))]) ++ ((List.range n.toNatClampNeg).map (fun i => H.size + 1 + i)).map (fun a => (a, .inl (cy, z)))) := by
    have hD1 := hD.push (e := .inl (cA, n.toNatClampNeg, .inr (.inr (.inr (.inr (fun i => if i < n.toNatClampNeg then some (H.size + 1 + i) else none)))))) hP rfl (hA _ hS.1)
    generalize hW1 : (X ++ va_pl L f) ++ [(H.size, .inl (cA, n.toNatClampNeg, .inr (.inr (.inr (.inr (fun i => if i < n.toNatClampNeg then some (H.size + 1 + i) else none))))))] = W1 at hD1 hP1 ⊢
    have hle : ∀ (k9 : Nat) (x : Nat × va_E), W1[k9]? = some x → x.1 ≤ H.size := fun k9 x hx => by
      rw [← hW1] at hx
      by_cases hl : k9 < (X ++ va_pl L f).length
      · rw [List.getElem?_append_left hl] at hx
        exact Nat.le_of_lt ((hP k9 x hx).lt)
      · rw [List.getElem?_append_right (by omega)] at hx
        have h0 : k9 - (X ++ va_pl L f).length < 1 := (List.getElem?_eq_some_iff.mp hx).1
        rw [show k9 - (X ++ va_pl L f).length = 0 by omega] at hx
        cases hx
        exact Nat.le_refl _
    have hr : ∀ (k9 : Nat) (x : Nat × va_E), (((List.range n.toNatClampNeg).map (fun i => H.size + 1 + i)).map (fun a => ((a, .inl (cy, z)) : Nat × va_E)))[k9]? = some x → x.1 = H.size + 1 + k9 := fun k9 x hx => by
      rw [List.getElem?_map, List.getElem?_map] at hx
      by_cases h9 : k9 < n.toNatClampNeg
      · rw [List.getElem?_range h9] at hx
        cases hx
        rfl
      · have hn0 : (List.range n.toNatClampNeg)[k9]? = none := List.getElem?_eq_none (by rw [List.length_range]; omega)
        rw [hn0] at hx
        cases hx
    refine ⟨fun i j x y hi hj hxy => ?_, fun k9 x hx => ?_⟩
    · by_cases h1 : i < W1.length <;> by_cases h2 : j < W1.length
      · rw [List.getElem?_append_left h1] at hi
        rw [List.getElem?_append_left h2] at hj
        exact hD1.1 i j x y hi hj hxy
      · rw [List.getElem?_append_left h1] at hi
        rw [List.getElem?_append_right (by omega)] at hj
        have := hle _ _ hi
        have := hr _ _ hj
        omega
      · rw [List.getElem?_append_right (by omega)] at hi
        rw [List.getElem?_append_left h2] at hj
        have := hle _ _ hj
        have := hr _ _ hi
        omega
      · rw [List.getElem?_append_right (by omega)] at hi hj
        have := hr _ _ hi
        have := hr _ _ hj
        omega
    · by_cases h1 : k9 < W1.length
      · rw [List.getElem?_append_left h1] at hx
        exact hD1.2 k9 x hx
      · rw [List.getElem?_append_right (by omega)] at hx
        have := hr _ _ hx
        exact hA _ (by have := hS.1; omega)
  have hAr : ArrOfT s cA (.array ty) := fun N9 z9 => by
    obtain ⟨-, k9, hk9, cm9, hkk9⟩ := (hO 0 0 0).1
    exact ⟨(fun q hq => by cases hq), k9, hk9, cm9, hkk9⟩
  have hK2 : va_K D cl (tys ++ [(cA, .array ty)]) s := ⟨hK.1, fun k9 x hx => by
    by_cases hl : k9 < tys.length
    · rw [List.getElem?_append_left hl] at hx
      exact hK.2 k9 x hx
    · rw [List.getElem?_append_right (by omega)] at hx
      have h0 : k9 - tys.length < 1 := (List.getElem?_eq_some_iff.mp hx).1
      rw [show k9 - tys.length = 0 by omega] at hx
      cases hx
      exact ⟨hAr, fA⟩⟩
  obtain ⟨t, a1, b1⟩ := kk H.size (fun i => H.size + 1 + i) cA F.heap (fun i j _ _ h => by have h9 : H.size + 1 + i = H.size + 1 + j := h; omega) hnl hK2 (by rw [← vr_rows hnm]; exact vr_lay hP2) (by rw [← vr_rows hnm]; exact vr_layD hD2) ⟨by rw [f1]; have := hS.1; omega, fun x h1 h2 => (hold x (Nat.lt_of_lt_of_le h1 hS.1)).trans (hS.2.1 x h1 h2), hS.2.2⟩ F rfl X'
  refine ⟨t, step t ?_, b1⟩
  have e : T.heap.size = H.size := by rw [hT]
  rw [e]
  exact a1
end VGM
/-! ===== END ===== -/
end
section
/-! names, fields, codes -/
def RX0 : String := "BirdParlour$Bird"
def TX0 : u_T := fun k => match k with
  | 0 => ("BirdParlour$Bird", "spring", "I", true)
  | 1 => ("BirdParlour$Bird", "weight", "I", true)
  | 2 => ("BirdParlour$Bird", "places", "I", true)
  | 3 => ("BirdParlour$Bird", "p", "I", true)
  | 4 => ("BirdParlour$Bird", "q", "I", true)
  | 5 => ("BirdParlour$Bird", "levers", "[I", true)
  | 6 => ("BirdParlour$Bird", "notes", "[I", true)
  | 7 => ("BirdParlour$Bird", "cams", "[LBirdParlour$Cam;", true)
  | 8 => ("BirdParlour$Bird", "pins", "I", false)
  | 9 => ("BirdParlour$Bird", "isEngaged", "Z", false)
  | 10 => ("BirdParlour$Bird", "shaftAtStart", "J", false)
  | 11 => ("BirdParlour$Bird", "gone", "J", false)
  | 12 => ("BirdParlour$Bird", "sounded", "I", false)
  | 13 => ("BirdParlour$Bird", "goneBefore", "J", false)
  | _ => ("BirdParlour$Bird", "soundedBefore", "I", false)
def tyX0 : Nat → FieldType := fun k => match k with
  | 0 => .int
  | 1 => .int
  | 2 => .int
  | 3 => .int
  | 4 => .int
  | 5 => .array .int
  | 6 => .array .int
  | 7 => .array (.object "BirdParlour$Cam")
  | 8 => .int
  | 9 => .boolean
  | 10 => .long
  | 11 => .long
  | 12 => .int
  | 13 => .long
  | _ => .int
abbrev wsX00 : List Cond := u_ws RX0 TX0 15
theorem nmX0 : ∀ a, a < 15 → ∀ b, b < 15 → a ≠ b → (TX0 a).2.1 ≠ (TX0 b).2.1 := by decide +kernel
theorem tyX0_ok : ∀ k, k < 15 → parseFieldDescriptor (TX0 k).2.2.1 = some (tyX0 k) := by decide +kernel
abbrev cX0_init : ByteArray := prog_2_method_1_code
def yX0_init : MethodName := ⟨RX0, "<init>", "(IIIIIJ)V"⟩
abbrev cX0_isDrivenBy : ByteArray := prog_2_method_4_code
def yX0_isDrivenBy : MethodName := ⟨RX0, "isDrivenBy", "(I)Z"⟩
abbrev cX0_goneWhen : ByteArray := prog_2_method_6_code
def yX0_goneWhen : MethodName := ⟨RX0, "goneWhen", "(J)J"⟩
abbrev cX0_placeWhenGone : ByteArray := prog_2_method_7_code
def yX0_placeWhenGone : MethodName := ⟨RX0, "placeWhenGone", "(J)I"⟩
abbrev cX0_placeNow : ByteArray := prog_2_method_8_code
def yX0_placeNow : MethodName := ⟨RX0, "placeNow", "()I"⟩
abbrev cX0_hasPlace : ByteArray := prog_2_method_9_code
def yX0_hasPlace : MethodName := ⟨RX0, "hasPlace", "(I)Z"⟩
abbrev cX0_hasPin : ByteArray := prog_2_method_10_code
def yX0_hasPin : MethodName := ⟨RX0, "hasPin", "(II)Z"⟩
abbrev cX0_turnPin : ByteArray := prog_2_method_11_code
def yX0_turnPin : MethodName := ⟨RX0, "turnPin", "(II)V"⟩
abbrev cX0_camAt : ByteArray := prog_2_method_12_code
def yX0_camAt : MethodName := ⟨RX0, "camAt", "(I)LBirdParlour$Cam;"⟩
abbrev cX0_burden : ByteArray := prog_2_method_13_code
def yX0_burden : MethodName := ⟨RX0, "burden", "()I"⟩
def RX1 : String := "BirdParlour$Cam"
def TX1 : u_T := fun k => match k with
  | 0 => ("BirdParlour$Cam", "marks", "[I", true)
  | 1 => ("BirdParlour$Cam", "lifts", "[I", true)
  | _ => ("BirdParlour$Cam", "points", "I", false)
def tyX1 : Nat → FieldType := fun k => match k with
  | 0 => .array .int
  | 1 => .array .int
  | _ => .int
abbrev wsX10 : List Cond := u_ws RX1 TX1 3
theorem nmX1 : ∀ a, a < 3 → ∀ b, b < 3 → a ≠ b → (TX1 a).2.1 ≠ (TX1 b).2.1 := by decide +kernel
theorem tyX1_ok : ∀ k, k < 3 → parseFieldDescriptor (TX1 k).2.2.1 = some (tyX1 k) := by decide +kernel
abbrev cX1_init : ByteArray := prog_3_method_1_code
def yX1_init : MethodName := ⟨RX1, "<init>", "()V"⟩
abbrev cX1_hasPoint : ByteArray := prog_3_method_2_code
def yX1_hasPoint : MethodName := ⟨RX1, "hasPoint", "(I)Z"⟩
abbrev cX1_layPoint : ByteArray := prog_3_method_3_code
def yX1_layPoint : MethodName := ⟨RX1, "layPoint", "(III)V"⟩
abbrev cX1_takePoint : ByteArray := prog_3_method_4_code
def yX1_takePoint : MethodName := ⟨RX1, "takePoint", "(II)V"⟩
abbrev cX1_draw : ByteArray := prog_3_method_5_code
def yX1_draw : MethodName := ⟨RX1, "draw", "(I)V"⟩
abbrev cX1_drawBehind : ByteArray := prog_3_method_6_code
def yX1_drawBehind : MethodName := ⟨RX1, "drawBehind", "(II)V"⟩
def RX2 : String := "BirdParlour$Songs"
def TX2 : u_T := fun k => match k with
  | 0 => ("BirdParlour$Songs", "kept", "[I", true)
  | 1 => ("BirdParlour$Songs", "keptNotes", "I", false)
  | 2 => ("BirdParlour$Songs", "allNotes", "I", false)
  | 3 => ("BirdParlour$Songs", "keptBefore", "I", false)
  | _ => ("BirdParlour$Songs", "allBefore", "I", false)
def tyX2 : Nat → FieldType := fun k => match k with
  | 0 => .array .int
  | 1 => .int
  | 2 => .int
  | 3 => .int
  | _ => .int
abbrev wsX20 : List Cond := u_ws RX2 TX2 5
theorem nmX2 : ∀ a, a < 5 → ∀ b, b < 5 → a ≠ b → (TX2 a).2.1 ≠ (TX2 b).2.1 := by decide +kernel
theorem tyX2_ok : ∀ k, k < 5 → parseFieldDescriptor (TX2 k).2.2.1 = some (tyX2 k) := by decide +kernel
abbrev cX2_init : ByteArray := prog_4_method_1_code
def yX2_init : MethodName := ⟨RX2, "<init>", "()V"⟩
abbrev cX2_hear : ByteArray := prog_4_method_4_code
def yX2_hear : MethodName := ⟨RX2, "hear", "(IIII)V"⟩
abbrev cX2_told : ByteArray := prog_4_method_5_code
def yX2_told : MethodName := ⟨RX2, "told", "(II)I"⟩
abbrev cX2_clearAll : ByteArray := prog_4_method_6_code
def yX2_clearAll : MethodName := ⟨RX2, "clearAll", "()V"⟩
def RX3 : String := "BirdParlour$Spring"
def TX3 : u_T := fun k => match k with
  | 0 => ("BirdParlour$Spring", "strength", "I", true)
  | 1 => ("BirdParlour$Spring", "held", "I", false)
  | 2 => ("BirdParlour$Spring", "shaft", "J", false)
  | 3 => ("BirdParlour$Spring", "speed", "I", false)
  | 4 => ("BirdParlour$Spring", "isBraked", "Z", false)
  | 5 => ("BirdParlour$Spring", "heldBefore", "I", false)
  | 6 => ("BirdParlour$Spring", "shaftBefore", "J", false)
  | _ => ("BirdParlour$Spring", "speedBefore", "I", false)
def tyX3 : Nat → FieldType := fun k => match k with
  | 0 => .int
  | 1 => .int
  | 2 => .long
  | 3 => .int
  | 4 => .boolean
  | 5 => .int
  | 6 => .long
  | _ => .int
abbrev wsX30 : List Cond := u_ws RX3 TX3 8
theorem nmX3 : ∀ a, a < 8 → ∀ b, b < 8 → a ≠ b → (TX3 a).2.1 ≠ (TX3 b).2.1 := by decide +kernel
theorem tyX3_ok : ∀ k, k < 8 → parseFieldDescriptor (TX3 k).2.2.1 = some (tyX3 k) := by decide +kernel
abbrev cX3_init : ByteArray := prog_5_method_1_code
def yX3_init : MethodName := ⟨RX3, "<init>", "(I)V"⟩
abbrev cX3_speedUnder : ByteArray := prog_5_method_4_code
def yX3_speedUnder : MethodName := ⟨RX3, "speedUnder", "(I)I"⟩
abbrev cX3_turn : ByteArray := prog_5_method_5_code
def yX3_turn : MethodName := ⟨RX3, "turn", "(I)V"⟩
abbrev cX3_payForNote : ByteArray := prog_5_method_6_code
def yX3_payForNote : MethodName := ⟨RX3, "payForNote", "()V"⟩
def RX4 : String := "BirdParlour"
def TX4 : u_T := fun k => match k with
  | 0 => ("BirdParlour", "springs", "[LBirdParlour$Spring;", true)
  | 1 => ("BirdParlour", "birds", "[LBirdParlour$Bird;", true)
  | 2 => ("BirdParlour", "songs", "LBirdParlour$Songs;", true)
  | 3 => ("BirdParlour", "springCount", "I", false)
  | 4 => ("BirdParlour", "birdCount", "I", false)
  | 5 => ("BirdParlour", "couplings", "I", false)
  | _ => ("BirdParlour", "tick", "I", false)
def tyX4 : Nat → FieldType := fun k => match k with
  | 0 => .array (.object "BirdParlour$Spring")
  | 1 => .array (.object "BirdParlour$Bird")
  | 2 => .object "BirdParlour$Songs"
  | 3 => .int
  | 4 => .int
  | 5 => .int
  | _ => .int
abbrev wsX40 : List Cond := u_ws RX4 TX4 7
theorem nmX4 : ∀ a, a < 7 → ∀ b, b < 7 → a ≠ b → (TX4 a).2.1 ≠ (TX4 b).2.1 := by decide +kernel
theorem tyX4_ok : ∀ k, k < 7 → parseFieldDescriptor (TX4 k).2.2.1 = some (tyX4 k) := by decide +kernel
abbrev cX4_init : ByteArray := prog_1_method_1_code
def yX4_init : MethodName := ⟨RX4, "<init>", "()V"⟩
abbrev cX4_addSpring : ByteArray := prog_1_method_2_code
def yX4_addSpring : MethodName := ⟨RX4, "addSpring", "(I)I"⟩
abbrev cX4_wind : ByteArray := prog_1_method_3_code
def yX4_wind : MethodName := ⟨RX4, "wind", "(II)I"⟩
abbrev cX4_couple : ByteArray := prog_1_method_5_code
def yX4_couple : MethodName := ⟨RX4, "couple", "(IIZ)I"⟩
abbrev cX4_spring : ByteArray := prog_1_method_6_code
def yX4_spring : MethodName := ⟨RX4, "spring", "(II)I"⟩
abbrev cX4_addBird : ByteArray := prog_1_method_7_code
def yX4_addBird : MethodName := ⟨RX4, "addBird", "(IIIII)I"⟩
abbrev cX4_pin : ByteArray := prog_1_method_9_code
def yX4_pin : MethodName := ⟨RX4, "pin", "(III)I"⟩
abbrev cX4_tune : ByteArray := prog_1_method_10_code
def yX4_tune : MethodName := ⟨RX4, "tune", "(III)I"⟩
abbrev cX4_point : ByteArray := prog_1_method_11_code
def yX4_point : MethodName := ⟨RX4, "point", "(IIII)I"⟩
abbrev cX4_bird : ByteArray := prog_1_method_12_code
def yX4_bird : MethodName := ⟨RX4, "bird", "(II)I"⟩
abbrev cX4_lift : ByteArray := prog_1_method_13_code
def yX4_lift : MethodName := ⟨RX4, "lift", "(III)I"⟩
abbrev cX4_run : ByteArray := prog_1_method_14_code
def yX4_run : MethodName := ⟨RX4, "run", "(I)I"⟩
abbrev cX4_count : ByteArray := prog_1_method_15_code
def yX4_count : MethodName := ⟨RX4, "count", "(I)I"⟩
abbrev cX4_sung : ByteArray := prog_1_method_16_code
def yX4_sung : MethodName := ⟨RX4, "sung", "(II)I"⟩
abbrev cX4_chord : ByteArray := prog_1_method_17_code
def yX4_chord : MethodName := ⟨RX4, "chord", "(I)I"⟩
abbrev cX4_longest : ByteArray := prog_1_method_18_code
def yX4_longest : MethodName := ⟨RX4, "longest", "()I"⟩
abbrev cX4_emptySongs : ByteArray := prog_1_method_19_code
def yX4_emptySongs : MethodName := ⟨RX4, "emptySongs", "()I"⟩
abbrev cX4_goOneTick : ByteArray := prog_1_method_23_code
def yX4_goOneTick : MethodName := ⟨RX4, "goOneTick", "()I"⟩
abbrev cX4_shareBetweenCoupled : ByteArray := prog_1_method_24_code
def yX4_shareBetweenCoupled : MethodName := ⟨RX4, "shareBetweenCoupled", "()V"⟩
abbrev cX4_shareBetween : ByteArray := prog_1_method_25_code
def yX4_shareBetween : MethodName := ⟨RX4, "shareBetween", "(LBirdParlour$Spring;LBirdParlour$Spring;)V"⟩
abbrev cX4_goShaft : ByteArray := prog_1_method_26_code
def yX4_goShaft : MethodName := ⟨RX4, "goShaft", "(ILBirdParlour$Spring;)I"⟩
abbrev cX4_goBarrel : ByteArray := prog_1_method_27_code
def yX4_goBarrel : MethodName := ⟨RX4, "goBarrel", "(ILBirdParlour$Bird;LBirdParlour$Spring;)I"⟩
abbrev cX4_soundPlace : ByteArray := prog_1_method_28_code
def yX4_soundPlace : MethodName := ⟨RX4, "soundPlace", "(ILBirdParlour$Bird;LBirdParlour$Spring;I)I"⟩
abbrev cX4_springAt : ByteArray := prog_1_method_29_code
def yX4_springAt : MethodName := ⟨RX4, "springAt", "(I)LBirdParlour$Spring;"⟩
abbrev cX4_birdAt : ByteArray := prog_1_method_30_code
def yX4_birdAt : MethodName := ⟨RX4, "birdAt", "(I)LBirdParlour$Bird;"⟩
abbrev cX4_birdsDrivenBy : ByteArray := prog_1_method_31_code
def yX4_birdsDrivenBy : MethodName := ⟨RX4, "birdsDrivenBy", "(I)I"⟩
abbrev cX4_loadOn : ByteArray := prog_1_method_32_code
def yX4_loadOn : MethodName := ⟨RX4, "loadOn", "(I)I"⟩
abbrev cX4_heldByAll : ByteArray := prog_1_method_33_code
def yX4_heldByAll : MethodName := ⟨RX4, "heldByAll", "()I"⟩
abbrev cX4_pairBit : ByteArray := prog_1_method_39_code
def yX4_pairBit : MethodName := ⟨RX4, "pairBit", "(II)I"⟩
abbrev cX4_isIn : ByteArray := prog_1_method_40_code
def yX4_isIn : MethodName := ⟨RX4, "isIn", "(III)Z"⟩
abbrev cX4_remainder : ByteArray := prog_1_method_41_code
def yX4_remainder : MethodName := ⟨RX4, "remainder", "(II)I"⟩
abbrev cX4_at : ByteArray := prog_1_method_42_code
def yX4_at : MethodName := ⟨RX4, "at", "([II)I"⟩
abbrev cX4_put : ByteArray := prog_1_method_43_code
def yX4_put : MethodName := ⟨RX4, "put", "([III)V"⟩
def RX5 : String := "BirdParlourLaw$Bird"
def TX5 : u_T := fun k => match k with
  | 0 => ("BirdParlourLaw$Bird", "spring", "I", false)
  | 1 => ("BirdParlourLaw$Bird", "weight", "I", false)
  | 2 => ("BirdParlourLaw$Bird", "n", "I", false)
  | 3 => ("BirdParlourLaw$Bird", "p", "I", false)
  | 4 => ("BirdParlourLaw$Bird", "q", "I", false)
  | 5 => ("BirdParlourLaw$Bird", "isOn", "Z", false)
  | 6 => ("BirdParlourLaw$Bird", "from", "J", false)
  | 7 => ("BirdParlourLaw$Bird", "come", "J", false)
  | 8 => ("BirdParlourLaw$Bird", "sounded", "I", false)
  | 9 => ("BirdParlourLaw$Bird", "pins", "[[I", false)
  | 10 => ("BirdParlourLaw$Bird", "cams", "[[[I", false)
  | _ => ("BirdParlourLaw$Bird", "notes", "[I", false)
def tyX5 : Nat → FieldType := fun k => match k with
  | 0 => .int
  | 1 => .int
  | 2 => .int
  | 3 => .int
  | 4 => .int
  | 5 => .boolean
  | 6 => .long
  | 7 => .long
  | 8 => .int
  | 9 => .array (.array .int)
  | 10 => .array (.array (.array .int))
  | _ => .array .int
abbrev wsX50 : List Cond := u_ws RX5 TX5 12
theorem nmX5 : ∀ a, a < 12 → ∀ b, b < 12 → a ≠ b → (TX5 a).2.1 ≠ (TX5 b).2.1 := by decide +kernel
theorem tyX5_ok : ∀ k, k < 12 → parseFieldDescriptor (TX5 k).2.2.1 = some (tyX5 k) := by decide +kernel
abbrev cX5_init : ByteArray := prog_7_method_1_code
def yX5_init : MethodName := ⟨RX5, "<init>", "()V"⟩
abbrev cX5_with : ByteArray := prog_7_method_3_code
def yX5_with : MethodName := ⟨RX5, "with", "([[I[I)[[I"⟩
def RX6 : String := "BirdParlourLaw$Sim"
def TX6 : u_T := fun k => match k with
  | 0 => ("BirdParlourLaw$Sim", "tick", "I", false)
  | 1 => ("BirdParlourLaw$Sim", "springs", "[[I", false)
  | 2 => ("BirdParlourLaw$Sim", "coupled", "[[Z", false)
  | 3 => ("BirdParlourLaw$Sim", "birds", "[LBirdParlourLaw$Bird;", false)
  | 4 => ("BirdParlourLaw$Sim", "songs", "[[I", false)
  | _ => ("BirdParlourLaw$Sim", "sounded", "I", false)
def tyX6 : Nat → FieldType := fun k => match k with
  | 0 => .int
  | 1 => .array (.array .int)
  | 2 => .array (.array .boolean)
  | 3 => .array (.object "BirdParlourLaw$Bird")
  | 4 => .array (.array .int)
  | _ => .int
abbrev wsX60 : List Cond := u_ws RX6 TX6 6
theorem nmX6 : ∀ a, a < 6 → ∀ b, b < 6 → a ≠ b → (TX6 a).2.1 ≠ (TX6 b).2.1 := by decide +kernel
theorem tyX6_ok : ∀ k, k < 6 → parseFieldDescriptor (TX6 k).2.2.1 = some (tyX6 k) := by decide +kernel
abbrev cX6_init : ByteArray := prog_8_method_1_code
def yX6_init : MethodName := ⟨RX6, "<init>", "()V"⟩
def RX7 : String := "BirdParlourModel"
def TX7 : u_T := fun k => match k with
  | _ => ("", "", "", false)
def tyX7 : Nat → FieldType := fun k => match k with
  | _ => .int
abbrev wsX70 : List Cond := u_ws RX7 TX7 0
theorem nmX7 : ∀ a, a < 0 → ∀ b, b < 0 → a ≠ b → (TX7 a).2.1 ≠ (TX7 b).2.1 := by decide +kernel
theorem tyX7_ok : ∀ k, k < 0 → parseFieldDescriptor (TX7 k).2.2.1 = some (tyX7 k) := by decide +kernel
def RJ6 : String := "java/lang/Integer"
def TJ6 : u_T := fun k => match k with
  | _ => ("", "", "", false)
def tyJ6 : Nat → FieldType := fun k => match k with
  | _ => .int
abbrev wsJ60 : List Cond := u_ws RJ6 TJ6 0
theorem nmJ6 : ∀ a, a < 0 → ∀ b, b < 0 → a ≠ b → (TJ6 a).2.1 ≠ (TJ6 b).2.1 := by decide +kernel
theorem tyJ6_ok : ∀ k, k < 0 → parseFieldDescriptor (TJ6 k).2.2.1 = some (tyJ6 k) := by decide +kernel
abbrev cJ6_bitCount_0f7a4 : ByteArray := prog_14_method_49_code
def yJ6_bitCount_0f7a4 : MethodName := ⟨RJ6, "bitCount", "(I)I"⟩
def RJ13 : String := "java/lang/Long"
def TJ13 : u_T := fun k => match k with
  | _ => ("", "", "", false)
def tyJ13 : Nat → FieldType := fun k => match k with
  | _ => .int
abbrev wsJ130 : List Cond := u_ws RJ13 TJ13 0
theorem nmJ13 : ∀ a, a < 0 → ∀ b, b < 0 → a ≠ b → (TJ13 a).2.1 ≠ (TJ13 b).2.1 := by decide +kernel
theorem tyJ13_ok : ∀ k, k < 0 → parseFieldDescriptor (TJ13 k).2.2.1 = some (tyJ13 k) := by decide +kernel
abbrev cJ13_bitCount_95d88 : ByteArray := prog_15_method_50_code
def yJ13_bitCount_95d88 : MethodName := ⟨RJ13, "bitCount", "(J)I"⟩
def RJ9 : String := "java/lang/Math"
def TJ9 : u_T := fun k => match k with
  | _ => ("", "", "", false)
def tyJ9 : Nat → FieldType := fun k => match k with
  | _ => .int
abbrev wsJ90 : List Cond := u_ws RJ9 TJ9 0
theorem nmJ9 : ∀ a, a < 0 → ∀ b, b < 0 → a ≠ b → (TJ9 a).2.1 ≠ (TJ9 b).2.1 := by decide +kernel
theorem tyJ9_ok : ∀ k, k < 0 → parseFieldDescriptor (TJ9 k).2.2.1 = some (tyJ9 k) := by decide +kernel
abbrev cJ9_floorDiv_7cf53 : ByteArray := prog_16_method_47_code
def yJ9_floorDiv_7cf53 : MethodName := ⟨RJ9, "floorDiv", "(II)I"⟩
abbrev cJ9_max_7cf53 : ByteArray := prog_16_method_65_code
def yJ9_max_7cf53 : MethodName := ⟨RJ9, "max", "(II)I"⟩
abbrev cJ9_min_7cf53 : ByteArray := prog_16_method_69_code
def yJ9_min_7cf53 : MethodName := ⟨RJ9, "min", "(II)I"⟩
abbrev cJ9_min_f86c9 : ByteArray := prog_16_method_70_code
def yJ9_min_f86c9 : MethodName := ⟨RJ9, "min", "(JJ)J"⟩
def RJ0 : String := "java/lang/String"
def TJ0 : u_T := fun k => match k with
  | _ => ("", "", "", false)
def tyJ0 : Nat → FieldType := fun k => match k with
  | _ => .int
abbrev wsJ00 : List Cond := u_ws RJ0 TJ0 0
theorem nmJ0 : ∀ a, a < 0 → ∀ b, b < 0 → a ≠ b → (TJ0 a).2.1 ≠ (TJ0 b).2.1 := by decide +kernel
theorem tyJ0_ok : ∀ k, k < 0 → parseFieldDescriptor (TJ0 k).2.2.1 = some (tyJ0 k) := by decide +kernel
def RL : String := "BirdParlourLaw"
abbrev cL_below : ByteArray := method_2_code
def yL_below : MethodName := ⟨RL, "below", "(II)I"⟩
abbrev cL_cell : ByteArray := method_3_code
def yL_cell : MethodName := ⟨RL, "cell", "([II)I"⟩
abbrev cL_build : ByteArray := method_4_code
def yL_build : MethodName := ⟨RL, "build", "(LBirdParlour;[II)LBirdParlourLaw$Sim;"⟩
abbrev cL_law : ByteArray := code
def yL_law : MethodName := ⟨RL, "law", "([I)Z"⟩
abbrev vwCl : List vw_C := [(RX0, TX0, 15), (RX1, TX1, 3), (RX2, TX2, 5), (RX3, TX3, 8), (RX4, TX4, 7), (RX5, TX5, 12), (RX6, TX6, 6)]
end
section
theorem dX0_init_0 : decode cX0_init 0 = .ok (.aload_n 0, 1) := by decide +kernel
theorem dX0_init_1 : decode cX0_init 1 = .ok (.invokespecial 3, 3) := by decide +kernel
theorem dX0_init_4 : decode cX0_init 4 = .ok (.aload_n 0, 1) := by decide +kernel
theorem dX0_init_5 : decode cX0_init 5 = .ok (.bipush 96, 2) := by decide +kernel
theorem dX0_init_7 : decode cX0_init 7 = .ok (.newarray .int, 2) := by decide +kernel
theorem dX0_init_9 : decode cX0_init 9 = .ok (.putfield 9, 3) := by decide +kernel
theorem dX0_init_12 : decode cX0_init 12 = .ok (.aload_n 0, 1) := by decide +kernel
theorem dX0_init_13 : decode cX0_init 13 = .ok (.bipush 6, 2) := by decide +kernel
theorem dX0_init_15 : decode cX0_init 15 = .ok (.newarray .int, 2) := by decide +kernel
theorem dX0_init_17 : decode cX0_init 17 = .ok (.putfield 15, 3) := by decide +kernel
theorem dX0_init_20 : decode cX0_init 20 = .ok (.aload_n 0, 1) := by decide +kernel
theorem dX0_init_21 : decode cX0_init 21 = .ok (.iconst 3, 1) := by decide +kernel
theorem dX0_init_22 : decode cX0_init 22 = .ok (.anewarray 18, 3) := by decide +kernel
theorem dX0_init_25 : decode cX0_init 25 = .ok (.putfield 20, 3) := by decide +kernel
theorem dX0_init_28 : decode cX0_init 28 = .ok (.aload_n 0, 1) := by decide +kernel
theorem dX0_init_29 : decode cX0_init 29 = .ok (.iload_n 1, 1) := by decide +kernel
theorem dX0_init_30 : decode cX0_init 30 = .ok (.putfield 24, 3) := by decide +kernel
theorem dX0_init_33 : decode cX0_init 33 = .ok (.aload_n 0, 1) := by decide +kernel
theorem dX0_init_34 : decode cX0_init 34 = .ok (.iload_n 2, 1) := by decide +kernel
theorem dX0_init_35 : decode cX0_init 35 = .ok (.putfield 28, 3) := by decide +kernel
theorem dX0_init_38 : decode cX0_init 38 = .ok (.aload_n 0, 1) := by decide +kernel
theorem dX0_init_39 : decode cX0_init 39 = .ok (.iload_n 3, 1) := by decide +kernel
theorem dX0_init_40 : decode cX0_init 40 = .ok (.putfield 31, 3) := by decide +kernel
theorem dX0_init_43 : decode cX0_init 43 = .ok (.aload_n 0, 1) := by decide +kernel
theorem dX0_init_44 : decode cX0_init 44 = .ok (.iload 4, 2) := by decide +kernel
theorem dX0_init_46 : decode cX0_init 46 = .ok (.putfield 34, 3) := by decide +kernel
theorem dX0_init_49 : decode cX0_init 49 = .ok (.aload_n 0, 1) := by decide +kernel
theorem dX0_init_50 : decode cX0_init 50 = .ok (.iload 5, 2) := by decide +kernel
theorem dX0_init_52 : decode cX0_init 52 = .ok (.putfield 37, 3) := by decide +kernel
theorem dX0_init_55 : decode cX0_init 55 = .ok (.aload_n 0, 1) := by decide +kernel
theorem dX0_init_56 : decode cX0_init 56 = .ok (.iconst 1, 1) := by decide +kernel
theorem dX0_init_57 : decode cX0_init 57 = .ok (.putfield 40, 3) := by decide +kernel
theorem dX0_init_60 : decode cX0_init 60 = .ok (.aload_n 0, 1) := by decide +kernel
theorem dX0_init_61 : decode cX0_init 61 = .ok (.lload 6, 2) := by decide +kernel
theorem dX0_init_63 : decode cX0_init 63 = .ok (.putfield 44, 3) := by decide +kernel
theorem dX0_init_66 : decode cX0_init 66 = .ok (.iconst 0, 1) := by decide +kernel
theorem dX0_init_67 : decode cX0_init 67 = .ok (.istore 8, 2) := by decide +kernel
theorem dX0_init_69 : decode cX0_init 69 = .ok (.iload 8, 2) := by decide +kernel
theorem dX0_init_71 : decode cX0_init 71 = .ok (.aload_n 0, 1) := by decide +kernel
theorem dX0_init_72 : decode cX0_init 72 = .ok (.getfield 15, 3) := by decide +kernel
theorem dX0_init_75 : decode cX0_init 75 = .ok (.arraylength, 1) := by decide +kernel
theorem dX0_init_76 : decode cX0_init 76 = .ok (.if_icmp .ge 23, 3) := by decide +kernel
theorem dX0_init_79 : decode cX0_init 79 = .ok (.aload_n 0, 1) := by decide +kernel
theorem dX0_init_80 : decode cX0_init 80 = .ok (.getfield 15, 3) := by decide +kernel
theorem dX0_init_83 : decode cX0_init 83 = .ok (.iload 8, 2) := by decide +kernel
theorem dX0_init_85 : decode cX0_init 85 = .ok (.bipush 60, 2) := by decide +kernel
theorem dX0_init_87 : decode cX0_init 87 = .ok (.iconst 2, 1) := by decide +kernel
theorem dX0_init_88 : decode cX0_init 88 = .ok (.iload 8, 2) := by decide +kernel
theorem dX0_init_90 : decode cX0_init 90 = .ok (.imul, 1) := by decide +kernel
theorem dX0_init_91 : decode cX0_init 91 = .ok (.iadd, 1) := by decide +kernel
theorem dX0_init_92 : decode cX0_init 92 = .ok (.iastore, 1) := by decide +kernel
theorem dX0_init_93 : decode cX0_init 93 = .ok (.iinc 8 1, 3) := by decide +kernel
theorem dX0_init_96 : decode cX0_init 96 = .ok (.goto (-27), 3) := by decide +kernel
theorem dX0_init_99 : decode cX0_init 99 = .ok (.iconst 0, 1) := by decide +kernel
theorem dX0_init_100 : decode cX0_init 100 = .ok (.istore 8, 2) := by decide +kernel
theorem dX0_init_102 : decode cX0_init 102 = .ok (.iload 8, 2) := by decide +kernel
theorem dX0_init_104 : decode cX0_init 104 = .ok (.aload_n 0, 1) := by decide +kernel
theorem dX0_init_105 : decode cX0_init 105 = .ok (.getfield 20, 3) := by decide +kernel
theorem dX0_init_108 : decode cX0_init 108 = .ok (.arraylength, 1) := by decide +kernel
theorem dX0_init_109 : decode cX0_init 109 = .ok (.if_icmp .ge 23, 3) := by decide +kernel
theorem dX0_init_112 : decode cX0_init 112 = .ok (.aload_n 0, 1) := by decide +kernel
theorem dX0_init_113 : decode cX0_init 113 = .ok (.getfield 20, 3) := by decide +kernel
theorem dX0_init_116 : decode cX0_init 116 = .ok (.iload 8, 2) := by decide +kernel
theorem dX0_init_118 : decode cX0_init 118 = .ok (.new 18, 3) := by decide +kernel
theorem dX0_init_121 : decode cX0_init 121 = .ok (.dup, 1) := by decide +kernel
theorem dX0_init_122 : decode cX0_init 122 = .ok (.invokespecial 48, 3) := by decide +kernel
theorem dX0_init_125 : decode cX0_init 125 = .ok (.aastore, 1) := by decide +kernel
theorem dX0_init_126 : decode cX0_init 126 = .ok (.iinc 8 1, 3) := by decide +kernel
theorem dX0_init_129 : decode cX0_init 129 = .ok (.goto (-27), 3) := by decide +kernel
theorem dX0_init_132 : decode cX0_init 132 = .ok (.return_, 1) := by decide +kernel
theorem dX0_isDrivenBy_0 : decode cX0_isDrivenBy 0 = .ok (.aload_n 0, 1) := by decide +kernel
theorem dX0_isDrivenBy_1 : decode cX0_isDrivenBy 1 = .ok (.getfield 40, 3) := by decide +kernel
theorem dX0_isDrivenBy_4 : decode cX0_isDrivenBy 4 = .ok (.ifCond .eq 15, 3) := by decide +kernel
theorem dX0_isDrivenBy_7 : decode cX0_isDrivenBy 7 = .ok (.aload_n 0, 1) := by decide +kernel
theorem dX0_isDrivenBy_8 : decode cX0_isDrivenBy 8 = .ok (.getfield 24, 3) := by decide +kernel
theorem dX0_isDrivenBy_11 : decode cX0_isDrivenBy 11 = .ok (.iload_n 1, 1) := by decide +kernel
theorem dX0_isDrivenBy_12 : decode cX0_isDrivenBy 12 = .ok (.if_icmp .ne 7, 3) := by decide +kernel
theorem dX0_isDrivenBy_15 : decode cX0_isDrivenBy 15 = .ok (.iconst 1, 1) := by decide +kernel
theorem dX0_isDrivenBy_16 : decode cX0_isDrivenBy 16 = .ok (.goto 4, 3) := by decide +kernel
theorem dX0_isDrivenBy_19 : decode cX0_isDrivenBy 19 = .ok (.iconst 0, 1) := by decide +kernel
theorem dX0_isDrivenBy_20 : decode cX0_isDrivenBy 20 = .ok (.ireturn, 1) := by decide +kernel
theorem dX0_goneWhen_0 : decode cX0_goneWhen 0 = .ok (.ldc2_w 61, 3) := by decide +kernel
theorem dX0_goneWhen_3 : decode cX0_goneWhen 3 = .ok (.aload_n 0, 1) := by decide +kernel
theorem dX0_goneWhen_4 : decode cX0_goneWhen 4 = .ok (.getfield 37, 3) := by decide +kernel
theorem dX0_goneWhen_7 : decode cX0_goneWhen 7 = .ok (.i2l, 1) := by decide +kernel
theorem dX0_goneWhen_8 : decode cX0_goneWhen 8 = .ok (.lmul, 1) := by decide +kernel
theorem dX0_goneWhen_9 : decode cX0_goneWhen 9 = .ok (.lstore_n 3, 1) := by decide +kernel
theorem dX0_goneWhen_10 : decode cX0_goneWhen 10 = .ok (.lload_n 3, 1) := by decide +kernel
theorem dX0_goneWhen_11 : decode cX0_goneWhen 11 = .ok (.lconst 0, 1) := by decide +kernel
theorem dX0_goneWhen_12 : decode cX0_goneWhen 12 = .ok (.lcmp, 1) := by decide +kernel
theorem dX0_goneWhen_13 : decode cX0_goneWhen 13 = .ok (.ifCond .le 26, 3) := by decide +kernel
theorem dX0_goneWhen_16 : decode cX0_goneWhen 16 = .ok (.lload_n 1, 1) := by decide +kernel
theorem dX0_goneWhen_17 : decode cX0_goneWhen 17 = .ok (.aload_n 0, 1) := by decide +kernel
theorem dX0_goneWhen_18 : decode cX0_goneWhen 18 = .ok (.getfield 44, 3) := by decide +kernel
theorem dX0_goneWhen_21 : decode cX0_goneWhen 21 = .ok (.lsub, 1) := by decide +kernel
theorem dX0_goneWhen_22 : decode cX0_goneWhen 22 = .ok (.aload_n 0, 1) := by decide +kernel
theorem dX0_goneWhen_23 : decode cX0_goneWhen 23 = .ok (.getfield 34, 3) := by decide +kernel
theorem dX0_goneWhen_26 : decode cX0_goneWhen 26 = .ok (.i2l, 1) := by decide +kernel
theorem dX0_goneWhen_27 : decode cX0_goneWhen 27 = .ok (.lmul, 1) := by decide +kernel
theorem dX0_goneWhen_28 : decode cX0_goneWhen 28 = .ok (.aload_n 0, 1) := by decide +kernel
theorem dX0_goneWhen_29 : decode cX0_goneWhen 29 = .ok (.getfield 31, 3) := by decide +kernel
theorem dX0_goneWhen_32 : decode cX0_goneWhen 32 = .ok (.i2l, 1) := by decide +kernel
theorem dX0_goneWhen_33 : decode cX0_goneWhen 33 = .ok (.lmul, 1) := by decide +kernel
theorem dX0_goneWhen_34 : decode cX0_goneWhen 34 = .ok (.lload_n 3, 1) := by decide +kernel
theorem dX0_goneWhen_35 : decode cX0_goneWhen 35 = .ok (.ldiv, 1) := by decide +kernel
theorem dX0_goneWhen_36 : decode cX0_goneWhen 36 = .ok (.goto 4, 3) := by decide +kernel
theorem dX0_goneWhen_39 : decode cX0_goneWhen 39 = .ok (.lconst 0, 1) := by decide +kernel
theorem dX0_goneWhen_40 : decode cX0_goneWhen 40 = .ok (.lreturn, 1) := by decide +kernel
theorem dX0_placeWhenGone_0 : decode cX0_placeWhenGone 0 = .ok (.aload_n 0, 1) := by decide +kernel
theorem dX0_placeWhenGone_1 : decode cX0_placeWhenGone 1 = .ok (.getfield 31, 3) := by decide +kernel
theorem dX0_placeWhenGone_4 : decode cX0_placeWhenGone 4 = .ok (.ifCond .le 14, 3) := by decide +kernel
theorem dX0_placeWhenGone_7 : decode cX0_placeWhenGone 7 = .ok (.lload_n 1, 1) := by decide +kernel
theorem dX0_placeWhenGone_8 : decode cX0_placeWhenGone 8 = .ok (.aload_n 0, 1) := by decide +kernel
theorem dX0_placeWhenGone_9 : decode cX0_placeWhenGone 9 = .ok (.getfield 31, 3) := by decide +kernel
theorem dX0_placeWhenGone_12 : decode cX0_placeWhenGone 12 = .ok (.i2l, 1) := by decide +kernel
theorem dX0_placeWhenGone_13 : decode cX0_placeWhenGone 13 = .ok (.lrem, 1) := by decide +kernel
theorem dX0_placeWhenGone_14 : decode cX0_placeWhenGone 14 = .ok (.l2i, 1) := by decide +kernel
theorem dX0_placeWhenGone_15 : decode cX0_placeWhenGone 15 = .ok (.goto 4, 3) := by decide +kernel
theorem dX0_placeWhenGone_18 : decode cX0_placeWhenGone 18 = .ok (.iconst 0, 1) := by decide +kernel
theorem dX0_placeWhenGone_19 : decode cX0_placeWhenGone 19 = .ok (.ireturn, 1) := by decide +kernel
theorem dX0_placeNow_0 : decode cX0_placeNow 0 = .ok (.aload_n 0, 1) := by decide +kernel
theorem dX0_placeNow_1 : decode cX0_placeNow 1 = .ok (.aload_n 0, 1) := by decide +kernel
theorem dX0_placeNow_2 : decode cX0_placeNow 2 = .ok (.getfield 49, 3) := by decide +kernel
theorem dX0_placeNow_5 : decode cX0_placeNow 5 = .ok (.invokevirtual 63, 3) := by decide +kernel
theorem dX0_placeNow_8 : decode cX0_placeNow 8 = .ok (.ireturn, 1) := by decide +kernel
theorem dX0_hasPlace_0 : decode cX0_hasPlace 0 = .ok (.iload_n 1, 1) := by decide +kernel
theorem dX0_hasPlace_1 : decode cX0_hasPlace 1 = .ok (.iconst 0, 1) := by decide +kernel
theorem dX0_hasPlace_2 : decode cX0_hasPlace 2 = .ok (.aload_n 0, 1) := by decide +kernel
theorem dX0_hasPlace_3 : decode cX0_hasPlace 3 = .ok (.getfield 31, 3) := by decide +kernel
theorem dX0_hasPlace_6 : decode cX0_hasPlace 6 = .ok (.iconst 1, 1) := by decide +kernel
theorem dX0_hasPlace_7 : decode cX0_hasPlace 7 = .ok (.isub, 1) := by decide +kernel
theorem dX0_hasPlace_8 : decode cX0_hasPlace 8 = .ok (.invokestatic 67, 3) := by decide +kernel
theorem dX0_hasPlace_11 : decode cX0_hasPlace 11 = .ok (.ireturn, 1) := by decide +kernel
theorem dX0_hasPin_0 : decode cX0_hasPin 0 = .ok (.aload_n 0, 1) := by decide +kernel
theorem dX0_hasPin_1 : decode cX0_hasPin 1 = .ok (.getfield 9, 3) := by decide +kernel
theorem dX0_hasPin_4 : decode cX0_hasPin 4 = .ok (.iload_n 1, 1) := by decide +kernel
theorem dX0_hasPin_5 : decode cX0_hasPin 5 = .ok (.invokestatic 71, 3) := by decide +kernel
theorem dX0_hasPin_8 : decode cX0_hasPin 8 = .ok (.iload_n 2, 1) := by decide +kernel
theorem dX0_hasPin_9 : decode cX0_hasPin 9 = .ok (.ishr, 1) := by decide +kernel
theorem dX0_hasPin_10 : decode cX0_hasPin 10 = .ok (.iconst 1, 1) := by decide +kernel
theorem dX0_hasPin_11 : decode cX0_hasPin 11 = .ok (.iand, 1) := by decide +kernel
theorem dX0_hasPin_12 : decode cX0_hasPin 12 = .ok (.iconst 1, 1) := by decide +kernel
theorem dX0_hasPin_13 : decode cX0_hasPin 13 = .ok (.if_icmp .ne 7, 3) := by decide +kernel
theorem dX0_hasPin_16 : decode cX0_hasPin 16 = .ok (.iconst 1, 1) := by decide +kernel
theorem dX0_hasPin_17 : decode cX0_hasPin 17 = .ok (.goto 4, 3) := by decide +kernel
theorem dX0_hasPin_20 : decode cX0_hasPin 20 = .ok (.iconst 0, 1) := by decide +kernel
theorem dX0_hasPin_21 : decode cX0_hasPin 21 = .ok (.ireturn, 1) := by decide +kernel
theorem dX0_turnPin_0 : decode cX0_turnPin 0 = .ok (.aload_n 0, 1) := by decide +kernel
theorem dX0_turnPin_1 : decode cX0_turnPin 1 = .ok (.dup, 1) := by decide +kernel
theorem dX0_turnPin_2 : decode cX0_turnPin 2 = .ok (.getfield 75, 3) := by decide +kernel
theorem dX0_turnPin_5 : decode cX0_turnPin 5 = .ok (.aload_n 0, 1) := by decide +kernel
theorem dX0_turnPin_6 : decode cX0_turnPin 6 = .ok (.iload_n 1, 1) := by decide +kernel
theorem dX0_turnPin_7 : decode cX0_turnPin 7 = .ok (.iload_n 2, 1) := by decide +kernel
theorem dX0_turnPin_8 : decode cX0_turnPin 8 = .ok (.invokevirtual 78, 3) := by decide +kernel
theorem dX0_turnPin_11 : decode cX0_turnPin 11 = .ok (.ifCond .eq 7, 3) := by decide +kernel
theorem dX0_turnPin_14 : decode cX0_turnPin 14 = .ok (.iconst (-1), 1) := by decide +kernel
theorem dX0_turnPin_15 : decode cX0_turnPin 15 = .ok (.goto 4, 3) := by decide +kernel
theorem dX0_turnPin_18 : decode cX0_turnPin 18 = .ok (.iconst 1, 1) := by decide +kernel
theorem dX0_turnPin_19 : decode cX0_turnPin 19 = .ok (.iadd, 1) := by decide +kernel
theorem dX0_turnPin_20 : decode cX0_turnPin 20 = .ok (.putfield 75, 3) := by decide +kernel
theorem dX0_turnPin_23 : decode cX0_turnPin 23 = .ok (.aload_n 0, 1) := by decide +kernel
theorem dX0_turnPin_24 : decode cX0_turnPin 24 = .ok (.getfield 9, 3) := by decide +kernel
theorem dX0_turnPin_27 : decode cX0_turnPin 27 = .ok (.iload_n 1, 1) := by decide +kernel
theorem dX0_turnPin_28 : decode cX0_turnPin 28 = .ok (.aload_n 0, 1) := by decide +kernel
theorem dX0_turnPin_29 : decode cX0_turnPin 29 = .ok (.getfield 9, 3) := by decide +kernel
theorem dX0_turnPin_32 : decode cX0_turnPin 32 = .ok (.iload_n 1, 1) := by decide +kernel
theorem dX0_turnPin_33 : decode cX0_turnPin 33 = .ok (.invokestatic 71, 3) := by decide +kernel
theorem dX0_turnPin_36 : decode cX0_turnPin 36 = .ok (.iconst 1, 1) := by decide +kernel
theorem dX0_turnPin_37 : decode cX0_turnPin 37 = .ok (.iload_n 2, 1) := by decide +kernel
theorem dX0_turnPin_38 : decode cX0_turnPin 38 = .ok (.ishl, 1) := by decide +kernel
theorem dX0_turnPin_39 : decode cX0_turnPin 39 = .ok (.ixor, 1) := by decide +kernel
theorem dX0_turnPin_40 : decode cX0_turnPin 40 = .ok (.invokestatic 82, 3) := by decide +kernel
theorem dX0_turnPin_43 : decode cX0_turnPin 43 = .ok (.return_, 1) := by decide +kernel
theorem dX0_camAt_0 : decode cX0_camAt 0 = .ok (.iload_n 1, 1) := by decide +kernel
theorem dX0_camAt_1 : decode cX0_camAt 1 = .ok (.ifCond .lt 21, 3) := by decide +kernel
theorem dX0_camAt_4 : decode cX0_camAt 4 = .ok (.iload_n 1, 1) := by decide +kernel
theorem dX0_camAt_5 : decode cX0_camAt 5 = .ok (.aload_n 0, 1) := by decide +kernel
theorem dX0_camAt_6 : decode cX0_camAt 6 = .ok (.getfield 20, 3) := by decide +kernel
theorem dX0_camAt_9 : decode cX0_camAt 9 = .ok (.arraylength, 1) := by decide +kernel
theorem dX0_camAt_10 : decode cX0_camAt 10 = .ok (.if_icmp .ge 12, 3) := by decide +kernel
theorem dX0_camAt_13 : decode cX0_camAt 13 = .ok (.aload_n 0, 1) := by decide +kernel
theorem dX0_camAt_14 : decode cX0_camAt 14 = .ok (.getfield 20, 3) := by decide +kernel
theorem dX0_camAt_17 : decode cX0_camAt 17 = .ok (.iload_n 1, 1) := by decide +kernel
theorem dX0_camAt_18 : decode cX0_camAt 18 = .ok (.aaload, 1) := by decide +kernel
theorem dX0_camAt_19 : decode cX0_camAt 19 = .ok (.goto 4, 3) := by decide +kernel
theorem dX0_camAt_22 : decode cX0_camAt 22 = .ok (.aconst_null, 1) := by decide +kernel
theorem dX0_camAt_23 : decode cX0_camAt 23 = .ok (.areturn, 1) := by decide +kernel
theorem dX0_burden_0 : decode cX0_burden 0 = .ok (.aload_n 0, 1) := by decide +kernel
theorem dX0_burden_1 : decode cX0_burden 1 = .ok (.invokevirtual 86, 3) := by decide +kernel
theorem dX0_burden_4 : decode cX0_burden 4 = .ok (.istore_n 1, 1) := by decide +kernel
theorem dX0_burden_5 : decode cX0_burden 5 = .ok (.iconst 0, 1) := by decide +kernel
theorem dX0_burden_6 : decode cX0_burden 6 = .ok (.istore_n 2, 1) := by decide +kernel
theorem dX0_burden_7 : decode cX0_burden 7 = .ok (.aload_n 0, 1) := by decide +kernel
theorem dX0_burden_8 : decode cX0_burden 8 = .ok (.getfield 20, 3) := by decide +kernel
theorem dX0_burden_11 : decode cX0_burden 11 = .ok (.astore_n 3, 1) := by decide +kernel
theorem dX0_burden_12 : decode cX0_burden 12 = .ok (.aload_n 3, 1) := by decide +kernel
theorem dX0_burden_13 : decode cX0_burden 13 = .ok (.arraylength, 1) := by decide +kernel
theorem dX0_burden_14 : decode cX0_burden 14 = .ok (.istore 4, 2) := by decide +kernel
theorem dX0_burden_16 : decode cX0_burden 16 = .ok (.iconst 0, 1) := by decide +kernel
theorem dX0_burden_17 : decode cX0_burden 17 = .ok (.istore 5, 2) := by decide +kernel
theorem dX0_burden_19 : decode cX0_burden 19 = .ok (.iload 5, 2) := by decide +kernel
theorem dX0_burden_21 : decode cX0_burden 21 = .ok (.iload 4, 2) := by decide +kernel
theorem dX0_burden_23 : decode cX0_burden 23 = .ok (.if_icmp .ge 32, 3) := by decide +kernel
theorem dX0_burden_26 : decode cX0_burden 26 = .ok (.aload_n 3, 1) := by decide +kernel
theorem dX0_burden_27 : decode cX0_burden 27 = .ok (.iload 5, 2) := by decide +kernel
theorem dX0_burden_29 : decode cX0_burden 29 = .ok (.aaload, 1) := by decide +kernel
theorem dX0_burden_30 : decode cX0_burden 30 = .ok (.astore 6, 2) := by decide +kernel
theorem dX0_burden_32 : decode cX0_burden 32 = .ok (.aload 6, 2) := by decide +kernel
theorem dX0_burden_34 : decode cX0_burden 34 = .ok (.ifnull 15, 3) := by decide +kernel
theorem dX0_burden_37 : decode cX0_burden 37 = .ok (.iload_n 2, 1) := by decide +kernel
theorem dX0_burden_38 : decode cX0_burden 38 = .ok (.aload 6, 2) := by decide +kernel
theorem dX0_burden_40 : decode cX0_burden 40 = .ok (.getfield 90, 3) := by decide +kernel
theorem dX0_burden_43 : decode cX0_burden 43 = .ok (.iload_n 1, 1) := by decide +kernel
theorem dX0_burden_44 : decode cX0_burden 44 = .ok (.invokestatic 71, 3) := by decide +kernel
theorem dX0_burden_47 : decode cX0_burden 47 = .ok (.iadd, 1) := by decide +kernel
theorem dX0_burden_48 : decode cX0_burden 48 = .ok (.istore_n 2, 1) := by decide +kernel
theorem dX0_burden_49 : decode cX0_burden 49 = .ok (.iinc 5 1, 3) := by decide +kernel
theorem dX0_burden_52 : decode cX0_burden 52 = .ok (.goto (-33), 3) := by decide +kernel
theorem dX0_burden_55 : decode cX0_burden 55 = .ok (.aload_n 0, 1) := by decide +kernel
theorem dX0_burden_56 : decode cX0_burden 56 = .ok (.getfield 28, 3) := by decide +kernel
theorem dX0_burden_59 : decode cX0_burden 59 = .ok (.iload_n 2, 1) := by decide +kernel
theorem dX0_burden_60 : decode cX0_burden 60 = .ok (.iconst 5, 1) := by decide +kernel
theorem dX0_burden_61 : decode cX0_burden 61 = .ok (.idiv, 1) := by decide +kernel
theorem dX0_burden_62 : decode cX0_burden 62 = .ok (.iadd, 1) := by decide +kernel
theorem dX0_burden_63 : decode cX0_burden 63 = .ok (.ireturn, 1) := by decide +kernel
theorem dX1_init_0 : decode cX1_init 0 = .ok (.aload_n 0, 1) := by decide +kernel
theorem dX1_init_1 : decode cX1_init 1 = .ok (.invokespecial 3, 3) := by decide +kernel
theorem dX1_init_4 : decode cX1_init 4 = .ok (.aload_n 0, 1) := by decide +kernel
theorem dX1_init_5 : decode cX1_init 5 = .ok (.bipush 96, 2) := by decide +kernel
theorem dX1_init_7 : decode cX1_init 7 = .ok (.newarray .int, 2) := by decide +kernel
theorem dX1_init_9 : decode cX1_init 9 = .ok (.putfield 9, 3) := by decide +kernel
theorem dX1_init_12 : decode cX1_init 12 = .ok (.aload_n 0, 1) := by decide +kernel
theorem dX1_init_13 : decode cX1_init 13 = .ok (.bipush 96, 2) := by decide +kernel
theorem dX1_init_15 : decode cX1_init 15 = .ok (.newarray .int, 2) := by decide +kernel
theorem dX1_init_17 : decode cX1_init 17 = .ok (.putfield 15, 3) := by decide +kernel
theorem dX1_init_20 : decode cX1_init 20 = .ok (.return_, 1) := by decide +kernel
theorem dX1_hasPoint_0 : decode cX1_hasPoint 0 = .ok (.aload_n 0, 1) := by decide +kernel
theorem dX1_hasPoint_1 : decode cX1_hasPoint 1 = .ok (.getfield 9, 3) := by decide +kernel
theorem dX1_hasPoint_4 : decode cX1_hasPoint 4 = .ok (.iload_n 1, 1) := by decide +kernel
theorem dX1_hasPoint_5 : decode cX1_hasPoint 5 = .ok (.invokestatic 18, 3) := by decide +kernel
theorem dX1_hasPoint_8 : decode cX1_hasPoint 8 = .ok (.iconst 1, 1) := by decide +kernel
theorem dX1_hasPoint_9 : decode cX1_hasPoint 9 = .ok (.if_icmp .ne 7, 3) := by decide +kernel
theorem dX1_hasPoint_12 : decode cX1_hasPoint 12 = .ok (.iconst 1, 1) := by decide +kernel
theorem dX1_hasPoint_13 : decode cX1_hasPoint 13 = .ok (.goto 4, 3) := by decide +kernel
theorem dX1_hasPoint_16 : decode cX1_hasPoint 16 = .ok (.iconst 0, 1) := by decide +kernel
theorem dX1_hasPoint_17 : decode cX1_hasPoint 17 = .ok (.ireturn, 1) := by decide +kernel
theorem dX1_layPoint_0 : decode cX1_layPoint 0 = .ok (.aload_n 0, 1) := by decide +kernel
theorem dX1_layPoint_1 : decode cX1_layPoint 1 = .ok (.iload_n 1, 1) := by decide +kernel
theorem dX1_layPoint_2 : decode cX1_layPoint 2 = .ok (.invokevirtual 22, 3) := by decide +kernel
theorem dX1_layPoint_5 : decode cX1_layPoint 5 = .ok (.ifCond .ne 13, 3) := by decide +kernel
theorem dX1_layPoint_8 : decode cX1_layPoint 8 = .ok (.aload_n 0, 1) := by decide +kernel
theorem dX1_layPoint_9 : decode cX1_layPoint 9 = .ok (.dup, 1) := by decide +kernel
theorem dX1_layPoint_10 : decode cX1_layPoint 10 = .ok (.getfield 26, 3) := by decide +kernel
theorem dX1_layPoint_13 : decode cX1_layPoint 13 = .ok (.iconst 1, 1) := by decide +kernel
theorem dX1_layPoint_14 : decode cX1_layPoint 14 = .ok (.iadd, 1) := by decide +kernel
theorem dX1_layPoint_15 : decode cX1_layPoint 15 = .ok (.putfield 26, 3) := by decide +kernel
theorem dX1_layPoint_18 : decode cX1_layPoint 18 = .ok (.aload_n 0, 1) := by decide +kernel
theorem dX1_layPoint_19 : decode cX1_layPoint 19 = .ok (.getfield 9, 3) := by decide +kernel
theorem dX1_layPoint_22 : decode cX1_layPoint 22 = .ok (.iload_n 1, 1) := by decide +kernel
theorem dX1_layPoint_23 : decode cX1_layPoint 23 = .ok (.iconst 1, 1) := by decide +kernel
theorem dX1_layPoint_24 : decode cX1_layPoint 24 = .ok (.invokestatic 30, 3) := by decide +kernel
theorem dX1_layPoint_27 : decode cX1_layPoint 27 = .ok (.aload_n 0, 1) := by decide +kernel
theorem dX1_layPoint_28 : decode cX1_layPoint 28 = .ok (.getfield 15, 3) := by decide +kernel
theorem dX1_layPoint_31 : decode cX1_layPoint 31 = .ok (.iload_n 1, 1) := by decide +kernel
theorem dX1_layPoint_32 : decode cX1_layPoint 32 = .ok (.iload_n 2, 1) := by decide +kernel
theorem dX1_layPoint_33 : decode cX1_layPoint 33 = .ok (.invokestatic 30, 3) := by decide +kernel
theorem dX1_layPoint_36 : decode cX1_layPoint 36 = .ok (.aload_n 0, 1) := by decide +kernel
theorem dX1_layPoint_37 : decode cX1_layPoint 37 = .ok (.iload_n 3, 1) := by decide +kernel
theorem dX1_layPoint_38 : decode cX1_layPoint 38 = .ok (.invokevirtual 34, 3) := by decide +kernel
theorem dX1_layPoint_41 : decode cX1_layPoint 41 = .ok (.return_, 1) := by decide +kernel
theorem dX1_takePoint_0 : decode cX1_takePoint 0 = .ok (.aload_n 0, 1) := by decide +kernel
theorem dX1_takePoint_1 : decode cX1_takePoint 1 = .ok (.iload_n 1, 1) := by decide +kernel
theorem dX1_takePoint_2 : decode cX1_takePoint 2 = .ok (.invokevirtual 22, 3) := by decide +kernel
theorem dX1_takePoint_5 : decode cX1_takePoint 5 = .ok (.ifCond .eq 13, 3) := by decide +kernel
theorem dX1_takePoint_8 : decode cX1_takePoint 8 = .ok (.aload_n 0, 1) := by decide +kernel
theorem dX1_takePoint_9 : decode cX1_takePoint 9 = .ok (.dup, 1) := by decide +kernel
theorem dX1_takePoint_10 : decode cX1_takePoint 10 = .ok (.getfield 26, 3) := by decide +kernel
theorem dX1_takePoint_13 : decode cX1_takePoint 13 = .ok (.iconst 1, 1) := by decide +kernel
theorem dX1_takePoint_14 : decode cX1_takePoint 14 = .ok (.isub, 1) := by decide +kernel
theorem dX1_takePoint_15 : decode cX1_takePoint 15 = .ok (.putfield 26, 3) := by decide +kernel
theorem dX1_takePoint_18 : decode cX1_takePoint 18 = .ok (.aload_n 0, 1) := by decide +kernel
theorem dX1_takePoint_19 : decode cX1_takePoint 19 = .ok (.getfield 9, 3) := by decide +kernel
theorem dX1_takePoint_22 : decode cX1_takePoint 22 = .ok (.iload_n 1, 1) := by decide +kernel
theorem dX1_takePoint_23 : decode cX1_takePoint 23 = .ok (.iconst 0, 1) := by decide +kernel
theorem dX1_takePoint_24 : decode cX1_takePoint 24 = .ok (.invokestatic 30, 3) := by decide +kernel
theorem dX1_takePoint_27 : decode cX1_takePoint 27 = .ok (.aload_n 0, 1) := by decide +kernel
theorem dX1_takePoint_28 : decode cX1_takePoint 28 = .ok (.iload_n 2, 1) := by decide +kernel
theorem dX1_takePoint_29 : decode cX1_takePoint 29 = .ok (.invokevirtual 34, 3) := by decide +kernel
theorem dX1_takePoint_32 : decode cX1_takePoint 32 = .ok (.return_, 1) := by decide +kernel
theorem dX1_draw_0 : decode cX1_draw 0 = .ok (.iconst 0, 1) := by decide +kernel
theorem dX1_draw_1 : decode cX1_draw 1 = .ok (.istore_n 2, 1) := by decide +kernel
theorem dX1_draw_2 : decode cX1_draw 2 = .ok (.iload_n 2, 1) := by decide +kernel
theorem dX1_draw_3 : decode cX1_draw 3 = .ok (.iload_n 1, 1) := by decide +kernel
theorem dX1_draw_4 : decode cX1_draw 4 = .ok (.if_icmp .ge 42, 3) := by decide +kernel
theorem dX1_draw_7 : decode cX1_draw 7 = .ok (.aload_n 0, 1) := by decide +kernel
theorem dX1_draw_8 : decode cX1_draw 8 = .ok (.iload_n 2, 1) := by decide +kernel
theorem dX1_draw_9 : decode cX1_draw 9 = .ok (.invokevirtual 22, 3) := by decide +kernel
theorem dX1_draw_12 : decode cX1_draw 12 = .ok (.ifCond .eq 12, 3) := by decide +kernel
theorem dX1_draw_15 : decode cX1_draw 15 = .ok (.aload_n 0, 1) := by decide +kernel
theorem dX1_draw_16 : decode cX1_draw 16 = .ok (.iload_n 2, 1) := by decide +kernel
theorem dX1_draw_17 : decode cX1_draw 17 = .ok (.iload_n 1, 1) := by decide +kernel
theorem dX1_draw_18 : decode cX1_draw 18 = .ok (.invokevirtual 38, 3) := by decide +kernel
theorem dX1_draw_21 : decode cX1_draw 21 = .ok (.goto 19, 3) := by decide +kernel
theorem dX1_draw_24 : decode cX1_draw 24 = .ok (.aload_n 0, 1) := by decide +kernel
theorem dX1_draw_25 : decode cX1_draw 25 = .ok (.getfield 26, 3) := by decide +kernel
theorem dX1_draw_28 : decode cX1_draw 28 = .ok (.ifCond .ne 12, 3) := by decide +kernel
theorem dX1_draw_31 : decode cX1_draw 31 = .ok (.aload_n 0, 1) := by decide +kernel
theorem dX1_draw_32 : decode cX1_draw 32 = .ok (.getfield 15, 3) := by decide +kernel
theorem dX1_draw_35 : decode cX1_draw 35 = .ok (.iload_n 2, 1) := by decide +kernel
theorem dX1_draw_36 : decode cX1_draw 36 = .ok (.iconst 0, 1) := by decide +kernel
theorem dX1_draw_37 : decode cX1_draw 37 = .ok (.invokestatic 30, 3) := by decide +kernel
theorem dX1_draw_40 : decode cX1_draw 40 = .ok (.iinc 2 1, 3) := by decide +kernel
theorem dX1_draw_43 : decode cX1_draw 43 = .ok (.goto (-41), 3) := by decide +kernel
theorem dX1_draw_46 : decode cX1_draw 46 = .ok (.return_, 1) := by decide +kernel
theorem dX1_drawBehind_0 : decode cX1_drawBehind 0 = .ok (.iconst 1, 1) := by decide +kernel
theorem dX1_drawBehind_1 : decode cX1_drawBehind 1 = .ok (.istore_n 3, 1) := by decide +kernel
theorem dX1_drawBehind_2 : decode cX1_drawBehind 2 = .ok (.iload_n 3, 1) := by decide +kernel
theorem dX1_drawBehind_3 : decode cX1_drawBehind 3 = .ok (.iload_n 2, 1) := by decide +kernel
theorem dX1_drawBehind_4 : decode cX1_drawBehind 4 = .ok (.if_icmp .ge 23, 3) := by decide +kernel
theorem dX1_drawBehind_7 : decode cX1_drawBehind 7 = .ok (.aload_n 0, 1) := by decide +kernel
theorem dX1_drawBehind_8 : decode cX1_drawBehind 8 = .ok (.iload_n 1, 1) := by decide +kernel
theorem dX1_drawBehind_9 : decode cX1_drawBehind 9 = .ok (.iload_n 3, 1) := by decide +kernel
theorem dX1_drawBehind_10 : decode cX1_drawBehind 10 = .ok (.iadd, 1) := by decide +kernel
theorem dX1_drawBehind_11 : decode cX1_drawBehind 11 = .ok (.iload_n 2, 1) := by decide +kernel
theorem dX1_drawBehind_12 : decode cX1_drawBehind 12 = .ok (.invokestatic 42, 3) := by decide +kernel
theorem dX1_drawBehind_15 : decode cX1_drawBehind 15 = .ok (.invokevirtual 22, 3) := by decide +kernel
theorem dX1_drawBehind_18 : decode cX1_drawBehind 18 = .ok (.ifCond .ne 9, 3) := by decide +kernel
theorem dX1_drawBehind_21 : decode cX1_drawBehind 21 = .ok (.iinc 3 1, 3) := by decide +kernel
theorem dX1_drawBehind_24 : decode cX1_drawBehind 24 = .ok (.goto (-22), 3) := by decide +kernel
theorem dX1_drawBehind_27 : decode cX1_drawBehind 27 = .ok (.aload_n 0, 1) := by decide +kernel
theorem dX1_drawBehind_28 : decode cX1_drawBehind 28 = .ok (.getfield 15, 3) := by decide +kernel
theorem dX1_drawBehind_31 : decode cX1_drawBehind 31 = .ok (.iload_n 1, 1) := by decide +kernel
theorem dX1_drawBehind_32 : decode cX1_drawBehind 32 = .ok (.invokestatic 18, 3) := by decide +kernel
theorem dX1_drawBehind_35 : decode cX1_drawBehind 35 = .ok (.istore 4, 2) := by decide +kernel
theorem dX1_drawBehind_37 : decode cX1_drawBehind 37 = .ok (.aload_n 0, 1) := by decide +kernel
theorem dX1_drawBehind_38 : decode cX1_drawBehind 38 = .ok (.getfield 15, 3) := by decide +kernel
theorem dX1_drawBehind_41 : decode cX1_drawBehind 41 = .ok (.iload_n 1, 1) := by decide +kernel
theorem dX1_drawBehind_42 : decode cX1_drawBehind 42 = .ok (.iload_n 3, 1) := by decide +kernel
theorem dX1_drawBehind_43 : decode cX1_drawBehind 43 = .ok (.iadd, 1) := by decide +kernel
theorem dX1_drawBehind_44 : decode cX1_drawBehind 44 = .ok (.iload_n 2, 1) := by decide +kernel
theorem dX1_drawBehind_45 : decode cX1_drawBehind 45 = .ok (.invokestatic 42, 3) := by decide +kernel
theorem dX1_drawBehind_48 : decode cX1_drawBehind 48 = .ok (.invokestatic 18, 3) := by decide +kernel
theorem dX1_drawBehind_51 : decode cX1_drawBehind 51 = .ok (.iload 4, 2) := by decide +kernel
theorem dX1_drawBehind_53 : decode cX1_drawBehind 53 = .ok (.isub, 1) := by decide +kernel
theorem dX1_drawBehind_54 : decode cX1_drawBehind 54 = .ok (.istore 5, 2) := by decide +kernel
theorem dX1_drawBehind_56 : decode cX1_drawBehind 56 = .ok (.iconst 1, 1) := by decide +kernel
theorem dX1_drawBehind_57 : decode cX1_drawBehind 57 = .ok (.istore 6, 2) := by decide +kernel
theorem dX1_drawBehind_59 : decode cX1_drawBehind 59 = .ok (.iload 6, 2) := by decide +kernel
theorem dX1_drawBehind_61 : decode cX1_drawBehind 61 = .ok (.iload_n 3, 1) := by decide +kernel
theorem dX1_drawBehind_62 : decode cX1_drawBehind 62 = .ok (.if_icmp .ge 36, 3) := by decide +kernel
theorem dX1_drawBehind_65 : decode cX1_drawBehind 65 = .ok (.aload_n 0, 1) := by decide +kernel
theorem dX1_drawBehind_66 : decode cX1_drawBehind 66 = .ok (.getfield 15, 3) := by decide +kernel
theorem dX1_drawBehind_69 : decode cX1_drawBehind 69 = .ok (.iload_n 1, 1) := by decide +kernel
theorem dX1_drawBehind_70 : decode cX1_drawBehind 70 = .ok (.iload 6, 2) := by decide +kernel
theorem dX1_drawBehind_72 : decode cX1_drawBehind 72 = .ok (.iadd, 1) := by decide +kernel
theorem dX1_drawBehind_73 : decode cX1_drawBehind 73 = .ok (.iload_n 2, 1) := by decide +kernel
theorem dX1_drawBehind_74 : decode cX1_drawBehind 74 = .ok (.invokestatic 42, 3) := by decide +kernel
theorem dX1_drawBehind_77 : decode cX1_drawBehind 77 = .ok (.iload 4, 2) := by decide +kernel
theorem dX1_drawBehind_79 : decode cX1_drawBehind 79 = .ok (.iload 5, 2) := by decide +kernel
theorem dX1_drawBehind_81 : decode cX1_drawBehind 81 = .ok (.iload 6, 2) := by decide +kernel
theorem dX1_drawBehind_83 : decode cX1_drawBehind 83 = .ok (.imul, 1) := by decide +kernel
theorem dX1_drawBehind_84 : decode cX1_drawBehind 84 = .ok (.iload_n 3, 1) := by decide +kernel
theorem dX1_drawBehind_85 : decode cX1_drawBehind 85 = .ok (.invokestatic 46, 3) := by decide +kernel
theorem dX1_drawBehind_88 : decode cX1_drawBehind 88 = .ok (.iadd, 1) := by decide +kernel
theorem dX1_drawBehind_89 : decode cX1_drawBehind 89 = .ok (.invokestatic 30, 3) := by decide +kernel
theorem dX1_drawBehind_92 : decode cX1_drawBehind 92 = .ok (.iinc 6 1, 3) := by decide +kernel
theorem dX1_drawBehind_95 : decode cX1_drawBehind 95 = .ok (.goto (-36), 3) := by decide +kernel
theorem dX1_drawBehind_98 : decode cX1_drawBehind 98 = .ok (.return_, 1) := by decide +kernel
theorem dX2_init_0 : decode cX2_init 0 = .ok (.aload_n 0, 1) := by decide +kernel
theorem dX2_init_1 : decode cX2_init 1 = .ok (.invokespecial 3, 3) := by decide +kernel
theorem dX2_init_4 : decode cX2_init 4 = .ok (.aload_n 0, 1) := by decide +kernel
theorem dX2_init_5 : decode cX2_init 5 = .ok (.sipush 1000, 3) := by decide +kernel
theorem dX2_init_8 : decode cX2_init 8 = .ok (.newarray .int, 2) := by decide +kernel
theorem dX2_init_10 : decode cX2_init 10 = .ok (.putfield 9, 3) := by decide +kernel
theorem dX2_init_13 : decode cX2_init 13 = .ok (.return_, 1) := by decide +kernel
theorem dX2_hear_0 : decode cX2_hear 0 = .ok (.aload_n 0, 1) := by decide +kernel
theorem dX2_hear_1 : decode cX2_hear 1 = .ok (.dup, 1) := by decide +kernel
theorem dX2_hear_2 : decode cX2_hear 2 = .ok (.getfield 22, 3) := by decide +kernel
theorem dX2_hear_5 : decode cX2_hear 5 = .ok (.iconst 1, 1) := by decide +kernel
theorem dX2_hear_6 : decode cX2_hear 6 = .ok (.iadd, 1) := by decide +kernel
theorem dX2_hear_7 : decode cX2_hear 7 = .ok (.putfield 22, 3) := by decide +kernel
theorem dX2_hear_10 : decode cX2_hear 10 = .ok (.aload_n 0, 1) := by decide +kernel
theorem dX2_hear_11 : decode cX2_hear 11 = .ok (.getfield 15, 3) := by decide +kernel
theorem dX2_hear_14 : decode cX2_hear 14 = .ok (.sipush 250, 3) := by decide +kernel
theorem dX2_hear_17 : decode cX2_hear 17 = .ok (.if_icmp .ge 68, 3) := by decide +kernel
theorem dX2_hear_20 : decode cX2_hear 20 = .ok (.aload_n 0, 1) := by decide +kernel
theorem dX2_hear_21 : decode cX2_hear 21 = .ok (.getfield 15, 3) := by decide +kernel
theorem dX2_hear_24 : decode cX2_hear 24 = .ok (.iconst 4, 1) := by decide +kernel
theorem dX2_hear_25 : decode cX2_hear 25 = .ok (.imul, 1) := by decide +kernel
theorem dX2_hear_26 : decode cX2_hear 26 = .ok (.istore 5, 2) := by decide +kernel
theorem dX2_hear_28 : decode cX2_hear 28 = .ok (.aload_n 0, 1) := by decide +kernel
theorem dX2_hear_29 : decode cX2_hear 29 = .ok (.getfield 9, 3) := by decide +kernel
theorem dX2_hear_32 : decode cX2_hear 32 = .ok (.iload 5, 2) := by decide +kernel
theorem dX2_hear_34 : decode cX2_hear 34 = .ok (.iload_n 1, 1) := by decide +kernel
theorem dX2_hear_35 : decode cX2_hear 35 = .ok (.invokestatic 28, 3) := by decide +kernel
theorem dX2_hear_38 : decode cX2_hear 38 = .ok (.aload_n 0, 1) := by decide +kernel
theorem dX2_hear_39 : decode cX2_hear 39 = .ok (.getfield 9, 3) := by decide +kernel
theorem dX2_hear_42 : decode cX2_hear 42 = .ok (.iload 5, 2) := by decide +kernel
theorem dX2_hear_44 : decode cX2_hear 44 = .ok (.iconst 1, 1) := by decide +kernel
theorem dX2_hear_45 : decode cX2_hear 45 = .ok (.iadd, 1) := by decide +kernel
theorem dX2_hear_46 : decode cX2_hear 46 = .ok (.iload_n 2, 1) := by decide +kernel
theorem dX2_hear_47 : decode cX2_hear 47 = .ok (.invokestatic 28, 3) := by decide +kernel
theorem dX2_hear_50 : decode cX2_hear 50 = .ok (.aload_n 0, 1) := by decide +kernel
theorem dX2_hear_51 : decode cX2_hear 51 = .ok (.getfield 9, 3) := by decide +kernel
theorem dX2_hear_54 : decode cX2_hear 54 = .ok (.iload 5, 2) := by decide +kernel
theorem dX2_hear_56 : decode cX2_hear 56 = .ok (.iconst 2, 1) := by decide +kernel
theorem dX2_hear_57 : decode cX2_hear 57 = .ok (.iadd, 1) := by decide +kernel
theorem dX2_hear_58 : decode cX2_hear 58 = .ok (.iload_n 3, 1) := by decide +kernel
theorem dX2_hear_59 : decode cX2_hear 59 = .ok (.invokestatic 28, 3) := by decide +kernel
theorem dX2_hear_62 : decode cX2_hear 62 = .ok (.aload_n 0, 1) := by decide +kernel
theorem dX2_hear_63 : decode cX2_hear 63 = .ok (.getfield 9, 3) := by decide +kernel
theorem dX2_hear_66 : decode cX2_hear 66 = .ok (.iload 5, 2) := by decide +kernel
theorem dX2_hear_68 : decode cX2_hear 68 = .ok (.iconst 3, 1) := by decide +kernel
theorem dX2_hear_69 : decode cX2_hear 69 = .ok (.iadd, 1) := by decide +kernel
theorem dX2_hear_70 : decode cX2_hear 70 = .ok (.iload 4, 2) := by decide +kernel
theorem dX2_hear_72 : decode cX2_hear 72 = .ok (.invokestatic 28, 3) := by decide +kernel
theorem dX2_hear_75 : decode cX2_hear 75 = .ok (.aload_n 0, 1) := by decide +kernel
theorem dX2_hear_76 : decode cX2_hear 76 = .ok (.dup, 1) := by decide +kernel
theorem dX2_hear_77 : decode cX2_hear 77 = .ok (.getfield 15, 3) := by decide +kernel
theorem dX2_hear_80 : decode cX2_hear 80 = .ok (.iconst 1, 1) := by decide +kernel
theorem dX2_hear_81 : decode cX2_hear 81 = .ok (.iadd, 1) := by decide +kernel
theorem dX2_hear_82 : decode cX2_hear 82 = .ok (.putfield 15, 3) := by decide +kernel
theorem dX2_hear_85 : decode cX2_hear 85 = .ok (.return_, 1) := by decide +kernel
theorem dX2_told_0 : decode cX2_told 0 = .ok (.aload_n 0, 1) := by decide +kernel
theorem dX2_told_1 : decode cX2_told 1 = .ok (.getfield 9, 3) := by decide +kernel
theorem dX2_told_4 : decode cX2_told 4 = .ok (.iload_n 1, 1) := by decide +kernel
theorem dX2_told_5 : decode cX2_told 5 = .ok (.iconst 4, 1) := by decide +kernel
theorem dX2_told_6 : decode cX2_told 6 = .ok (.imul, 1) := by decide +kernel
theorem dX2_told_7 : decode cX2_told 7 = .ok (.iload_n 2, 1) := by decide +kernel
theorem dX2_told_8 : decode cX2_told 8 = .ok (.iadd, 1) := by decide +kernel
theorem dX2_told_9 : decode cX2_told 9 = .ok (.invokestatic 32, 3) := by decide +kernel
theorem dX2_told_12 : decode cX2_told 12 = .ok (.ireturn, 1) := by decide +kernel
theorem dX2_clearAll_0 : decode cX2_clearAll 0 = .ok (.aload_n 0, 1) := by decide +kernel
theorem dX2_clearAll_1 : decode cX2_clearAll 1 = .ok (.iconst 0, 1) := by decide +kernel
theorem dX2_clearAll_2 : decode cX2_clearAll 2 = .ok (.putfield 15, 3) := by decide +kernel
theorem dX2_clearAll_5 : decode cX2_clearAll 5 = .ok (.aload_n 0, 1) := by decide +kernel
theorem dX2_clearAll_6 : decode cX2_clearAll 6 = .ok (.iconst 0, 1) := by decide +kernel
theorem dX2_clearAll_7 : decode cX2_clearAll 7 = .ok (.putfield 22, 3) := by decide +kernel
theorem dX2_clearAll_10 : decode cX2_clearAll 10 = .ok (.return_, 1) := by decide +kernel
theorem dX3_init_0 : decode cX3_init 0 = .ok (.aload_n 0, 1) := by decide +kernel
theorem dX3_init_1 : decode cX3_init 1 = .ok (.invokespecial 3, 3) := by decide +kernel
theorem dX3_init_4 : decode cX3_init 4 = .ok (.aload_n 0, 1) := by decide +kernel
theorem dX3_init_5 : decode cX3_init 5 = .ok (.iload_n 1, 1) := by decide +kernel
theorem dX3_init_6 : decode cX3_init 6 = .ok (.putfield 9, 3) := by decide +kernel
theorem dX3_init_9 : decode cX3_init 9 = .ok (.return_, 1) := by decide +kernel
theorem dX3_speedUnder_0 : decode cX3_speedUnder 0 = .ok (.sipush 200, 3) := by decide +kernel
theorem dX3_speedUnder_3 : decode cX3_speedUnder 3 = .ok (.iload_n 1, 1) := by decide +kernel
theorem dX3_speedUnder_4 : decode cX3_speedUnder 4 = .ok (.imul, 1) := by decide +kernel
theorem dX3_speedUnder_5 : decode cX3_speedUnder 5 = .ok (.istore_n 2, 1) := by decide +kernel
theorem dX3_speedUnder_6 : decode cX3_speedUnder 6 = .ok (.iload_n 2, 1) := by decide +kernel
theorem dX3_speedUnder_7 : decode cX3_speedUnder 7 = .ok (.ifCond .le 17, 3) := by decide +kernel
theorem dX3_speedUnder_10 : decode cX3_speedUnder 10 = .ok (.aload_n 0, 1) := by decide +kernel
theorem dX3_speedUnder_11 : decode cX3_speedUnder 11 = .ok (.getfield 9, 3) := by decide +kernel
theorem dX3_speedUnder_14 : decode cX3_speedUnder 14 = .ok (.aload_n 0, 1) := by decide +kernel
theorem dX3_speedUnder_15 : decode cX3_speedUnder 15 = .ok (.getfield 15, 3) := by decide +kernel
theorem dX3_speedUnder_18 : decode cX3_speedUnder 18 = .ok (.imul, 1) := by decide +kernel
theorem dX3_speedUnder_19 : decode cX3_speedUnder 19 = .ok (.iload_n 2, 1) := by decide +kernel
theorem dX3_speedUnder_20 : decode cX3_speedUnder 20 = .ok (.idiv, 1) := by decide +kernel
theorem dX3_speedUnder_21 : decode cX3_speedUnder 21 = .ok (.goto 4, 3) := by decide +kernel
theorem dX3_speedUnder_24 : decode cX3_speedUnder 24 = .ok (.iconst 0, 1) := by decide +kernel
theorem dX3_speedUnder_25 : decode cX3_speedUnder 25 = .ok (.istore_n 3, 1) := by decide +kernel
theorem dX3_speedUnder_26 : decode cX3_speedUnder 26 = .ok (.iload_n 3, 1) := by decide +kernel
theorem dX3_speedUnder_27 : decode cX3_speedUnder 27 = .ok (.iconst 1, 1) := by decide +kernel
theorem dX3_speedUnder_28 : decode cX3_speedUnder 28 = .ok (.invokestatic 34, 3) := by decide +kernel
theorem dX3_speedUnder_31 : decode cX3_speedUnder 31 = .ok (.sipush 400, 3) := by decide +kernel
theorem dX3_speedUnder_34 : decode cX3_speedUnder 34 = .ok (.invokestatic 40, 3) := by decide +kernel
theorem dX3_speedUnder_37 : decode cX3_speedUnder 37 = .ok (.aload_n 0, 1) := by decide +kernel
theorem dX3_speedUnder_38 : decode cX3_speedUnder 38 = .ok (.getfield 15, 3) := by decide +kernel
theorem dX3_speedUnder_41 : decode cX3_speedUnder 41 = .ok (.invokestatic 40, 3) := by decide +kernel
theorem dX3_speedUnder_44 : decode cX3_speedUnder 44 = .ok (.ireturn, 1) := by decide +kernel
theorem dX3_turn_0 : decode cX3_turn 0 = .ok (.aload_n 0, 1) := by decide +kernel
theorem dX3_turn_1 : decode cX3_turn 1 = .ok (.iload_n 1, 1) := by decide +kernel
theorem dX3_turn_2 : decode cX3_turn 2 = .ok (.putfield 28, 3) := by decide +kernel
theorem dX3_turn_5 : decode cX3_turn 5 = .ok (.aload_n 0, 1) := by decide +kernel
theorem dX3_turn_6 : decode cX3_turn 6 = .ok (.dup, 1) := by decide +kernel
theorem dX3_turn_7 : decode cX3_turn 7 = .ok (.getfield 21, 3) := by decide +kernel
theorem dX3_turn_10 : decode cX3_turn 10 = .ok (.iload_n 1, 1) := by decide +kernel
theorem dX3_turn_11 : decode cX3_turn 11 = .ok (.i2l, 1) := by decide +kernel
theorem dX3_turn_12 : decode cX3_turn 12 = .ok (.ladd, 1) := by decide +kernel
theorem dX3_turn_13 : decode cX3_turn 13 = .ok (.putfield 21, 3) := by decide +kernel
theorem dX3_turn_16 : decode cX3_turn 16 = .ok (.aload_n 0, 1) := by decide +kernel
theorem dX3_turn_17 : decode cX3_turn 17 = .ok (.dup, 1) := by decide +kernel
theorem dX3_turn_18 : decode cX3_turn 18 = .ok (.getfield 15, 3) := by decide +kernel
theorem dX3_turn_21 : decode cX3_turn 21 = .ok (.iload_n 1, 1) := by decide +kernel
theorem dX3_turn_22 : decode cX3_turn 22 = .ok (.isub, 1) := by decide +kernel
theorem dX3_turn_23 : decode cX3_turn 23 = .ok (.putfield 15, 3) := by decide +kernel
theorem dX3_turn_26 : decode cX3_turn 26 = .ok (.return_, 1) := by decide +kernel
theorem dX3_payForNote_0 : decode cX3_payForNote 0 = .ok (.aload_n 0, 1) := by decide +kernel
theorem dX3_payForNote_1 : decode cX3_payForNote 1 = .ok (.dup, 1) := by decide +kernel
theorem dX3_payForNote_2 : decode cX3_payForNote 2 = .ok (.getfield 15, 3) := by decide +kernel
theorem dX3_payForNote_5 : decode cX3_payForNote 5 = .ok (.bipush 10, 2) := by decide +kernel
theorem dX3_payForNote_7 : decode cX3_payForNote 7 = .ok (.aload_n 0, 1) := by decide +kernel
theorem dX3_payForNote_8 : decode cX3_payForNote 8 = .ok (.getfield 15, 3) := by decide +kernel
theorem dX3_payForNote_11 : decode cX3_payForNote 11 = .ok (.invokestatic 40, 3) := by decide +kernel
theorem dX3_payForNote_14 : decode cX3_payForNote 14 = .ok (.isub, 1) := by decide +kernel
theorem dX3_payForNote_15 : decode cX3_payForNote 15 = .ok (.putfield 15, 3) := by decide +kernel
theorem dX3_payForNote_18 : decode cX3_payForNote 18 = .ok (.return_, 1) := by decide +kernel
theorem dX4_init_0 : decode cX4_init 0 = .ok (.aload_n 0, 1) := by decide +kernel
theorem dX4_init_1 : decode cX4_init 1 = .ok (.invokespecial 1, 3) := by decide +kernel
theorem dX4_init_4 : decode cX4_init 4 = .ok (.aload_n 0, 1) := by decide +kernel
theorem dX4_init_5 : decode cX4_init 5 = .ok (.iconst 4, 1) := by decide +kernel
theorem dX4_init_6 : decode cX4_init 6 = .ok (.anewarray 9, 3) := by decide +kernel
theorem dX4_init_9 : decode cX4_init 9 = .ok (.putfield 11, 3) := by decide +kernel
theorem dX4_init_12 : decode cX4_init 12 = .ok (.aload_n 0, 1) := by decide +kernel
theorem dX4_init_13 : decode cX4_init 13 = .ok (.bipush 8, 2) := by decide +kernel
theorem dX4_init_15 : decode cX4_init 15 = .ok (.anewarray 15, 3) := by decide +kernel
theorem dX4_init_18 : decode cX4_init 18 = .ok (.putfield 17, 3) := by decide +kernel
theorem dX4_init_21 : decode cX4_init 21 = .ok (.aload_n 0, 1) := by decide +kernel
theorem dX4_init_22 : decode cX4_init 22 = .ok (.new 21, 3) := by decide +kernel
theorem dX4_init_25 : decode cX4_init 25 = .ok (.dup, 1) := by decide +kernel
theorem dX4_init_26 : decode cX4_init 26 = .ok (.invokespecial 23, 3) := by decide +kernel
theorem dX4_init_29 : decode cX4_init 29 = .ok (.putfield 24, 3) := by decide +kernel
theorem dX4_init_32 : decode cX4_init 32 = .ok (.return_, 1) := by decide +kernel
theorem dX4_addSpring_0 : decode cX4_addSpring 0 = .ok (.iload_n 1, 1) := by decide +kernel
theorem dX4_addSpring_1 : decode cX4_addSpring 1 = .ok (.iconst 1, 1) := by decide +kernel
theorem dX4_addSpring_2 : decode cX4_addSpring 2 = .ok (.bipush 50, 2) := by decide +kernel
theorem dX4_addSpring_4 : decode cX4_addSpring 4 = .ok (.invokestatic 28, 3) := by decide +kernel
theorem dX4_addSpring_7 : decode cX4_addSpring 7 = .ok (.ifCond .ne 13, 3) := by decide +kernel
theorem dX4_addSpring_10 : decode cX4_addSpring 10 = .ok (.new 32, 3) := by decide +kernel
theorem dX4_addSpring_13 : decode cX4_addSpring 13 = .ok (.dup, 1) := by decide +kernel
theorem dX4_addSpring_14 : decode cX4_addSpring 14 = .ok (.ldc 34, 2) := by decide +kernel
theorem dX4_addSpring_16 : decode cX4_addSpring 16 = .ok (.invokespecial 36, 3) := by decide +kernel
theorem dX4_addSpring_19 : decode cX4_addSpring 19 = .ok (.athrow, 1) := by decide +kernel
theorem dX4_addSpring_20 : decode cX4_addSpring 20 = .ok (.aload_n 0, 1) := by decide +kernel
theorem dX4_addSpring_21 : decode cX4_addSpring 21 = .ok (.getfield 39, 3) := by decide +kernel
theorem dX4_addSpring_24 : decode cX4_addSpring 24 = .ok (.istore_n 2, 1) := by decide +kernel
theorem dX4_addSpring_25 : decode cX4_addSpring 25 = .ok (.iload_n 2, 1) := by decide +kernel
theorem dX4_addSpring_26 : decode cX4_addSpring 26 = .ok (.ifCond .lt 12, 3) := by decide +kernel
theorem dX4_addSpring_29 : decode cX4_addSpring 29 = .ok (.iload_n 2, 1) := by decide +kernel
theorem dX4_addSpring_30 : decode cX4_addSpring 30 = .ok (.aload_n 0, 1) := by decide +kernel
theorem dX4_addSpring_31 : decode cX4_addSpring 31 = .ok (.getfield 11, 3) := by decide +kernel
theorem dX4_addSpring_34 : decode cX4_addSpring 34 = .ok (.arraylength, 1) := by decide +kernel
theorem dX4_addSpring_35 : decode cX4_addSpring 35 = .ok (.if_icmp .lt 13, 3) := by decide +kernel
theorem dX4_addSpring_38 : decode cX4_addSpring 38 = .ok (.new 43, 3) := by decide +kernel
theorem dX4_addSpring_41 : decode cX4_addSpring 41 = .ok (.dup, 1) := by decide +kernel
theorem dX4_addSpring_42 : decode cX4_addSpring 42 = .ok (.ldc 45, 2) := by decide +kernel
theorem dX4_addSpring_44 : decode cX4_addSpring 44 = .ok (.invokespecial 47, 3) := by decide +kernel
theorem dX4_addSpring_47 : decode cX4_addSpring 47 = .ok (.athrow, 1) := by decide +kernel
theorem dX4_addSpring_48 : decode cX4_addSpring 48 = .ok (.aload_n 0, 1) := by decide +kernel
theorem dX4_addSpring_49 : decode cX4_addSpring 49 = .ok (.getfield 11, 3) := by decide +kernel
theorem dX4_addSpring_52 : decode cX4_addSpring 52 = .ok (.iload_n 2, 1) := by decide +kernel
theorem dX4_addSpring_53 : decode cX4_addSpring 53 = .ok (.new 9, 3) := by decide +kernel
theorem dX4_addSpring_56 : decode cX4_addSpring 56 = .ok (.dup, 1) := by decide +kernel
theorem dX4_addSpring_57 : decode cX4_addSpring 57 = .ok (.iload_n 1, 1) := by decide +kernel
theorem dX4_addSpring_58 : decode cX4_addSpring 58 = .ok (.invokespecial 48, 3) := by decide +kernel
theorem dX4_addSpring_61 : decode cX4_addSpring 61 = .ok (.aastore, 1) := by decide +kernel
theorem dX4_addSpring_62 : decode cX4_addSpring 62 = .ok (.aload_n 0, 1) := by decide +kernel
theorem dX4_addSpring_63 : decode cX4_addSpring 63 = .ok (.dup, 1) := by decide +kernel
theorem dX4_addSpring_64 : decode cX4_addSpring 64 = .ok (.getfield 39, 3) := by decide +kernel
theorem dX4_addSpring_67 : decode cX4_addSpring 67 = .ok (.iconst 1, 1) := by decide +kernel
theorem dX4_addSpring_68 : decode cX4_addSpring 68 = .ok (.iadd, 1) := by decide +kernel
theorem dX4_addSpring_69 : decode cX4_addSpring 69 = .ok (.putfield 39, 3) := by decide +kernel
theorem dX4_addSpring_72 : decode cX4_addSpring 72 = .ok (.iload_n 2, 1) := by decide +kernel
theorem dX4_addSpring_73 : decode cX4_addSpring 73 = .ok (.ireturn, 1) := by decide +kernel
theorem dX4_wind_0 : decode cX4_wind 0 = .ok (.aload_n 0, 1) := by decide +kernel
theorem dX4_wind_1 : decode cX4_wind 1 = .ok (.iload_n 1, 1) := by decide +kernel
theorem dX4_wind_2 : decode cX4_wind 2 = .ok (.invokevirtual 51, 3) := by decide +kernel
theorem dX4_wind_5 : decode cX4_wind 5 = .ok (.astore_n 3, 1) := by decide +kernel
theorem dX4_wind_6 : decode cX4_wind 6 = .ok (.aload_n 3, 1) := by decide +kernel
theorem dX4_wind_7 : decode cX4_wind 7 = .ok (.ifnonnull 13, 3) := by decide +kernel
theorem dX4_wind_10 : decode cX4_wind 10 = .ok (.new 55, 3) := by decide +kernel
theorem dX4_wind_13 : decode cX4_wind 13 = .ok (.dup, 1) := by decide +kernel
theorem dX4_wind_14 : decode cX4_wind 14 = .ok (.ldc 57, 2) := by decide +kernel
theorem dX4_wind_16 : decode cX4_wind 16 = .ok (.invokespecial 59, 3) := by decide +kernel
theorem dX4_wind_19 : decode cX4_wind 19 = .ok (.athrow, 1) := by decide +kernel
theorem dX4_wind_20 : decode cX4_wind 20 = .ok (.iload_n 2, 1) := by decide +kernel
theorem dX4_wind_21 : decode cX4_wind 21 = .ok (.iconst 1, 1) := by decide +kernel
theorem dX4_wind_22 : decode cX4_wind 22 = .ok (.ldc 60, 2) := by decide +kernel
theorem dX4_wind_24 : decode cX4_wind 24 = .ok (.invokestatic 28, 3) := by decide +kernel
theorem dX4_wind_27 : decode cX4_wind 27 = .ok (.ifCond .ne 13, 3) := by decide +kernel
theorem dX4_wind_30 : decode cX4_wind 30 = .ok (.new 32, 3) := by decide +kernel
theorem dX4_wind_33 : decode cX4_wind 33 = .ok (.dup, 1) := by decide +kernel
theorem dX4_wind_34 : decode cX4_wind 34 = .ok (.ldc 61, 2) := by decide +kernel
theorem dX4_wind_36 : decode cX4_wind 36 = .ok (.invokespecial 36, 3) := by decide +kernel
theorem dX4_wind_39 : decode cX4_wind 39 = .ok (.athrow, 1) := by decide +kernel
theorem dX4_wind_40 : decode cX4_wind 40 = .ok (.aload_n 3, 1) := by decide +kernel
theorem dX4_wind_41 : decode cX4_wind 41 = .ok (.aload_n 3, 1) := by decide +kernel
theorem dX4_wind_42 : decode cX4_wind 42 = .ok (.getfield 63, 3) := by decide +kernel
theorem dX4_wind_45 : decode cX4_wind 45 = .ok (.iload_n 2, 1) := by decide +kernel
theorem dX4_wind_46 : decode cX4_wind 46 = .ok (.iadd, 1) := by decide +kernel
theorem dX4_wind_47 : decode cX4_wind 47 = .ok (.ldc 60, 2) := by decide +kernel
theorem dX4_wind_49 : decode cX4_wind 49 = .ok (.invokestatic 66, 3) := by decide +kernel
theorem dX4_wind_52 : decode cX4_wind 52 = .ok (.putfield 63, 3) := by decide +kernel
theorem dX4_wind_55 : decode cX4_wind 55 = .ok (.aload_n 3, 1) := by decide +kernel
theorem dX4_wind_56 : decode cX4_wind 56 = .ok (.getfield 63, 3) := by decide +kernel
theorem dX4_wind_59 : decode cX4_wind 59 = .ok (.ireturn, 1) := by decide +kernel
theorem dX4_couple_0 : decode cX4_couple 0 = .ok (.aload_n 0, 1) := by decide +kernel
theorem dX4_couple_1 : decode cX4_couple 1 = .ok (.iload_n 1, 1) := by decide +kernel
theorem dX4_couple_2 : decode cX4_couple 2 = .ok (.invokevirtual 51, 3) := by decide +kernel
theorem dX4_couple_5 : decode cX4_couple 5 = .ok (.ifnull 11, 3) := by decide +kernel
theorem dX4_couple_8 : decode cX4_couple 8 = .ok (.aload_n 0, 1) := by decide +kernel
theorem dX4_couple_9 : decode cX4_couple 9 = .ok (.iload_n 2, 1) := by decide +kernel
theorem dX4_couple_10 : decode cX4_couple 10 = .ok (.invokevirtual 51, 3) := by decide +kernel
theorem dX4_couple_13 : decode cX4_couple 13 = .ok (.ifnonnull 13, 3) := by decide +kernel
theorem dX4_couple_16 : decode cX4_couple 16 = .ok (.new 55, 3) := by decide +kernel
theorem dX4_couple_19 : decode cX4_couple 19 = .ok (.dup, 1) := by decide +kernel
theorem dX4_couple_20 : decode cX4_couple 20 = .ok (.ldc 57, 2) := by decide +kernel
theorem dX4_couple_22 : decode cX4_couple 22 = .ok (.invokespecial 59, 3) := by decide +kernel
theorem dX4_couple_25 : decode cX4_couple 25 = .ok (.athrow, 1) := by decide +kernel
theorem dX4_couple_26 : decode cX4_couple 26 = .ok (.iload_n 1, 1) := by decide +kernel
theorem dX4_couple_27 : decode cX4_couple 27 = .ok (.iload_n 2, 1) := by decide +kernel
theorem dX4_couple_28 : decode cX4_couple 28 = .ok (.if_icmp .ne 13, 3) := by decide +kernel
theorem dX4_couple_31 : decode cX4_couple 31 = .ok (.new 32, 3) := by decide +kernel
theorem dX4_couple_34 : decode cX4_couple 34 = .ok (.dup, 1) := by decide +kernel
theorem dX4_couple_35 : decode cX4_couple 35 = .ok (.ldc 76, 2) := by decide +kernel
theorem dX4_couple_37 : decode cX4_couple 37 = .ok (.invokespecial 36, 3) := by decide +kernel
theorem dX4_couple_40 : decode cX4_couple 40 = .ok (.athrow, 1) := by decide +kernel
theorem dX4_couple_41 : decode cX4_couple 41 = .ok (.iload_n 1, 1) := by decide +kernel
theorem dX4_couple_42 : decode cX4_couple 42 = .ok (.iload_n 2, 1) := by decide +kernel
theorem dX4_couple_43 : decode cX4_couple 43 = .ok (.invokestatic 78, 3) := by decide +kernel
theorem dX4_couple_46 : decode cX4_couple 46 = .ok (.istore 4, 2) := by decide +kernel
theorem dX4_couple_48 : decode cX4_couple 48 = .ok (.aload_n 0, 1) := by decide +kernel
theorem dX4_couple_49 : decode cX4_couple 49 = .ok (.iload_n 3, 1) := by decide +kernel
theorem dX4_couple_50 : decode cX4_couple 50 = .ok (.ifCond .eq 13, 3) := by decide +kernel
theorem dX4_couple_53 : decode cX4_couple 53 = .ok (.aload_n 0, 1) := by decide +kernel
theorem dX4_couple_54 : decode cX4_couple 54 = .ok (.getfield 81, 3) := by decide +kernel
theorem dX4_couple_57 : decode cX4_couple 57 = .ok (.iload 4, 2) := by decide +kernel
theorem dX4_couple_59 : decode cX4_couple 59 = .ok (.ior, 1) := by decide +kernel
theorem dX4_couple_60 : decode cX4_couple 60 = .ok (.goto 12, 3) := by decide +kernel
theorem dX4_couple_63 : decode cX4_couple 63 = .ok (.aload_n 0, 1) := by decide +kernel
theorem dX4_couple_64 : decode cX4_couple 64 = .ok (.getfield 81, 3) := by decide +kernel
theorem dX4_couple_67 : decode cX4_couple 67 = .ok (.iload 4, 2) := by decide +kernel
theorem dX4_couple_69 : decode cX4_couple 69 = .ok (.iconst (-1), 1) := by decide +kernel
theorem dX4_couple_70 : decode cX4_couple 70 = .ok (.ixor, 1) := by decide +kernel
theorem dX4_couple_71 : decode cX4_couple 71 = .ok (.iand, 1) := by decide +kernel
theorem dX4_couple_72 : decode cX4_couple 72 = .ok (.putfield 81, 3) := by decide +kernel
theorem dX4_couple_75 : decode cX4_couple 75 = .ok (.aload_n 0, 1) := by decide +kernel
theorem dX4_couple_76 : decode cX4_couple 76 = .ok (.getfield 81, 3) := by decide +kernel
theorem dX4_couple_79 : decode cX4_couple 79 = .ok (.invokestatic 84, 3) := by decide +kernel
theorem dX4_couple_82 : decode cX4_couple 82 = .ok (.ireturn, 1) := by decide +kernel
theorem dX4_spring_0 : decode cX4_spring 0 = .ok (.aload_n 0, 1) := by decide +kernel
theorem dX4_spring_1 : decode cX4_spring 1 = .ok (.iload_n 1, 1) := by decide +kernel
theorem dX4_spring_2 : decode cX4_spring 2 = .ok (.invokevirtual 51, 3) := by decide +kernel
theorem dX4_spring_5 : decode cX4_spring 5 = .ok (.astore_n 3, 1) := by decide +kernel
theorem dX4_spring_6 : decode cX4_spring 6 = .ok (.aload_n 3, 1) := by decide +kernel
theorem dX4_spring_7 : decode cX4_spring 7 = .ok (.ifnonnull 13, 3) := by decide +kernel
theorem dX4_spring_10 : decode cX4_spring 10 = .ok (.new 55, 3) := by decide +kernel
theorem dX4_spring_13 : decode cX4_spring 13 = .ok (.dup, 1) := by decide +kernel
theorem dX4_spring_14 : decode cX4_spring 14 = .ok (.ldc 57, 2) := by decide +kernel
theorem dX4_spring_16 : decode cX4_spring 16 = .ok (.invokespecial 59, 3) := by decide +kernel
theorem dX4_spring_19 : decode cX4_spring 19 = .ok (.athrow, 1) := by decide +kernel
theorem dX4_spring_20 : decode cX4_spring 20 = .ok (.iload_n 2, 1) := by decide +kernel
theorem dX4_spring_21 : decode cX4_spring 21 = .ok (.tableswitch 89 0 6 #[43, 48, 53, 59, 64, 77, 83], 43) := by decide +kernel
theorem dX4_spring_64 : decode cX4_spring 64 = .ok (.aload_n 3, 1) := by decide +kernel
theorem dX4_spring_65 : decode cX4_spring 65 = .ok (.getfield 90, 3) := by decide +kernel
theorem dX4_spring_68 : decode cX4_spring 68 = .ok (.ireturn, 1) := by decide +kernel
theorem dX4_spring_69 : decode cX4_spring 69 = .ok (.aload_n 3, 1) := by decide +kernel
theorem dX4_spring_70 : decode cX4_spring 70 = .ok (.getfield 63, 3) := by decide +kernel
theorem dX4_spring_73 : decode cX4_spring 73 = .ok (.ireturn, 1) := by decide +kernel
theorem dX4_spring_74 : decode cX4_spring 74 = .ok (.aload_n 3, 1) := by decide +kernel
theorem dX4_spring_75 : decode cX4_spring 75 = .ok (.getfield 93, 3) := by decide +kernel
theorem dX4_spring_78 : decode cX4_spring 78 = .ok (.l2i, 1) := by decide +kernel
theorem dX4_spring_79 : decode cX4_spring 79 = .ok (.ireturn, 1) := by decide +kernel
theorem dX4_spring_80 : decode cX4_spring 80 = .ok (.aload_n 3, 1) := by decide +kernel
theorem dX4_spring_81 : decode cX4_spring 81 = .ok (.getfield 97, 3) := by decide +kernel
theorem dX4_spring_84 : decode cX4_spring 84 = .ok (.ireturn, 1) := by decide +kernel
theorem dX4_spring_85 : decode cX4_spring 85 = .ok (.aload_n 3, 1) := by decide +kernel
theorem dX4_spring_86 : decode cX4_spring 86 = .ok (.getfield 72, 3) := by decide +kernel
theorem dX4_spring_89 : decode cX4_spring 89 = .ok (.ifCond .eq 7, 3) := by decide +kernel
theorem dX4_spring_92 : decode cX4_spring 92 = .ok (.iconst 1, 1) := by decide +kernel
theorem dX4_spring_93 : decode cX4_spring 93 = .ok (.goto 4, 3) := by decide +kernel
theorem dX4_spring_96 : decode cX4_spring 96 = .ok (.iconst 0, 1) := by decide +kernel
theorem dX4_spring_97 : decode cX4_spring 97 = .ok (.ireturn, 1) := by decide +kernel
theorem dX4_spring_98 : decode cX4_spring 98 = .ok (.aload_n 0, 1) := by decide +kernel
theorem dX4_spring_99 : decode cX4_spring 99 = .ok (.iload_n 1, 1) := by decide +kernel
theorem dX4_spring_100 : decode cX4_spring 100 = .ok (.invokevirtual 100, 3) := by decide +kernel
theorem dX4_spring_103 : decode cX4_spring 103 = .ok (.ireturn, 1) := by decide +kernel
theorem dX4_spring_104 : decode cX4_spring 104 = .ok (.aload_n 0, 1) := by decide +kernel
theorem dX4_spring_105 : decode cX4_spring 105 = .ok (.iload_n 1, 1) := by decide +kernel
theorem dX4_spring_106 : decode cX4_spring 106 = .ok (.invokevirtual 103, 3) := by decide +kernel
theorem dX4_spring_109 : decode cX4_spring 109 = .ok (.ireturn, 1) := by decide +kernel
theorem dX4_spring_110 : decode cX4_spring 110 = .ok (.new 55, 3) := by decide +kernel
theorem dX4_spring_113 : decode cX4_spring 113 = .ok (.dup, 1) := by decide +kernel
theorem dX4_spring_114 : decode cX4_spring 114 = .ok (.ldc 106, 2) := by decide +kernel
theorem dX4_spring_116 : decode cX4_spring 116 = .ok (.invokespecial 59, 3) := by decide +kernel
theorem dX4_spring_119 : decode cX4_spring 119 = .ok (.athrow, 1) := by decide +kernel
theorem dX4_addBird_0 : decode cX4_addBird 0 = .ok (.aload_n 0, 1) := by decide +kernel
theorem dX4_addBird_1 : decode cX4_addBird 1 = .ok (.iload_n 1, 1) := by decide +kernel
theorem dX4_addBird_2 : decode cX4_addBird 2 = .ok (.invokevirtual 51, 3) := by decide +kernel
theorem dX4_addBird_5 : decode cX4_addBird 5 = .ok (.astore 6, 2) := by decide +kernel
theorem dX4_addBird_7 : decode cX4_addBird 7 = .ok (.aload 6, 2) := by decide +kernel
theorem dX4_addBird_9 : decode cX4_addBird 9 = .ok (.ifnonnull 13, 3) := by decide +kernel
theorem dX4_addBird_12 : decode cX4_addBird 12 = .ok (.new 55, 3) := by decide +kernel
theorem dX4_addBird_15 : decode cX4_addBird 15 = .ok (.dup, 1) := by decide +kernel
theorem dX4_addBird_16 : decode cX4_addBird 16 = .ok (.ldc 57, 2) := by decide +kernel
theorem dX4_addBird_18 : decode cX4_addBird 18 = .ok (.invokespecial 59, 3) := by decide +kernel
theorem dX4_addBird_21 : decode cX4_addBird 21 = .ok (.athrow, 1) := by decide +kernel
theorem dX4_addBird_22 : decode cX4_addBird 22 = .ok (.iload_n 2, 1) := by decide +kernel
theorem dX4_addBird_23 : decode cX4_addBird 23 = .ok (.iconst 0, 1) := by decide +kernel
theorem dX4_addBird_24 : decode cX4_addBird 24 = .ok (.bipush 20, 2) := by decide +kernel
theorem dX4_addBird_26 : decode cX4_addBird 26 = .ok (.invokestatic 28, 3) := by decide +kernel
theorem dX4_addBird_29 : decode cX4_addBird 29 = .ok (.ifCond .ne 13, 3) := by decide +kernel
theorem dX4_addBird_32 : decode cX4_addBird 32 = .ok (.new 32, 3) := by decide +kernel
theorem dX4_addBird_35 : decode cX4_addBird 35 = .ok (.dup, 1) := by decide +kernel
theorem dX4_addBird_36 : decode cX4_addBird 36 = .ok (.ldc 108, 2) := by decide +kernel
theorem dX4_addBird_38 : decode cX4_addBird 38 = .ok (.invokespecial 36, 3) := by decide +kernel
theorem dX4_addBird_41 : decode cX4_addBird 41 = .ok (.athrow, 1) := by decide +kernel
theorem dX4_addBird_42 : decode cX4_addBird 42 = .ok (.iload_n 3, 1) := by decide +kernel
theorem dX4_addBird_43 : decode cX4_addBird 43 = .ok (.bipush 8, 2) := by decide +kernel
theorem dX4_addBird_45 : decode cX4_addBird 45 = .ok (.bipush 96, 2) := by decide +kernel
theorem dX4_addBird_47 : decode cX4_addBird 47 = .ok (.invokestatic 28, 3) := by decide +kernel
theorem dX4_addBird_50 : decode cX4_addBird 50 = .ok (.ifCond .ne 13, 3) := by decide +kernel
theorem dX4_addBird_53 : decode cX4_addBird 53 = .ok (.new 32, 3) := by decide +kernel
theorem dX4_addBird_56 : decode cX4_addBird 56 = .ok (.dup, 1) := by decide +kernel
theorem dX4_addBird_57 : decode cX4_addBird 57 = .ok (.ldc 110, 2) := by decide +kernel
theorem dX4_addBird_59 : decode cX4_addBird 59 = .ok (.invokespecial 36, 3) := by decide +kernel
theorem dX4_addBird_62 : decode cX4_addBird 62 = .ok (.athrow, 1) := by decide +kernel
theorem dX4_addBird_63 : decode cX4_addBird 63 = .ok (.iload 4, 2) := by decide +kernel
theorem dX4_addBird_65 : decode cX4_addBird 65 = .ok (.iconst 1, 1) := by decide +kernel
theorem dX4_addBird_66 : decode cX4_addBird 66 = .ok (.bipush 12, 2) := by decide +kernel
theorem dX4_addBird_68 : decode cX4_addBird 68 = .ok (.invokestatic 28, 3) := by decide +kernel
theorem dX4_addBird_71 : decode cX4_addBird 71 = .ok (.ifCond .eq 14, 3) := by decide +kernel
theorem dX4_addBird_74 : decode cX4_addBird 74 = .ok (.iload 5, 2) := by decide +kernel
theorem dX4_addBird_76 : decode cX4_addBird 76 = .ok (.iconst 1, 1) := by decide +kernel
theorem dX4_addBird_77 : decode cX4_addBird 77 = .ok (.bipush 12, 2) := by decide +kernel
theorem dX4_addBird_79 : decode cX4_addBird 79 = .ok (.invokestatic 28, 3) := by decide +kernel
theorem dX4_addBird_82 : decode cX4_addBird 82 = .ok (.ifCond .ne 13, 3) := by decide +kernel
theorem dX4_addBird_85 : decode cX4_addBird 85 = .ok (.new 32, 3) := by decide +kernel
theorem dX4_addBird_88 : decode cX4_addBird 88 = .ok (.dup, 1) := by decide +kernel
theorem dX4_addBird_89 : decode cX4_addBird 89 = .ok (.ldc 112, 2) := by decide +kernel
theorem dX4_addBird_91 : decode cX4_addBird 91 = .ok (.invokespecial 36, 3) := by decide +kernel
theorem dX4_addBird_94 : decode cX4_addBird 94 = .ok (.athrow, 1) := by decide +kernel
theorem dX4_addBird_95 : decode cX4_addBird 95 = .ok (.aload_n 0, 1) := by decide +kernel
theorem dX4_addBird_96 : decode cX4_addBird 96 = .ok (.getfield 114, 3) := by decide +kernel
theorem dX4_addBird_99 : decode cX4_addBird 99 = .ok (.istore 7, 2) := by decide +kernel
theorem dX4_addBird_101 : decode cX4_addBird 101 = .ok (.iload 7, 2) := by decide +kernel
theorem dX4_addBird_103 : decode cX4_addBird 103 = .ok (.ifCond .lt 13, 3) := by decide +kernel
theorem dX4_addBird_106 : decode cX4_addBird 106 = .ok (.iload 7, 2) := by decide +kernel
theorem dX4_addBird_108 : decode cX4_addBird 108 = .ok (.aload_n 0, 1) := by decide +kernel
theorem dX4_addBird_109 : decode cX4_addBird 109 = .ok (.getfield 17, 3) := by decide +kernel
theorem dX4_addBird_112 : decode cX4_addBird 112 = .ok (.arraylength, 1) := by decide +kernel
theorem dX4_addBird_113 : decode cX4_addBird 113 = .ok (.if_icmp .lt 13, 3) := by decide +kernel
theorem dX4_addBird_116 : decode cX4_addBird 116 = .ok (.new 43, 3) := by decide +kernel
theorem dX4_addBird_119 : decode cX4_addBird 119 = .ok (.dup, 1) := by decide +kernel
theorem dX4_addBird_120 : decode cX4_addBird 120 = .ok (.ldc 117, 2) := by decide +kernel
theorem dX4_addBird_122 : decode cX4_addBird 122 = .ok (.invokespecial 47, 3) := by decide +kernel
theorem dX4_addBird_125 : decode cX4_addBird 125 = .ok (.athrow, 1) := by decide +kernel
theorem dX4_addBird_126 : decode cX4_addBird 126 = .ok (.aload_n 0, 1) := by decide +kernel
theorem dX4_addBird_127 : decode cX4_addBird 127 = .ok (.getfield 17, 3) := by decide +kernel
theorem dX4_addBird_130 : decode cX4_addBird 130 = .ok (.iload 7, 2) := by decide +kernel
theorem dX4_addBird_132 : decode cX4_addBird 132 = .ok (.new 15, 3) := by decide +kernel
theorem dX4_addBird_135 : decode cX4_addBird 135 = .ok (.dup, 1) := by decide +kernel
theorem dX4_addBird_136 : decode cX4_addBird 136 = .ok (.iload_n 1, 1) := by decide +kernel
theorem dX4_addBird_137 : decode cX4_addBird 137 = .ok (.iload_n 2, 1) := by decide +kernel
theorem dX4_addBird_138 : decode cX4_addBird 138 = .ok (.iload_n 3, 1) := by decide +kernel
theorem dX4_addBird_139 : decode cX4_addBird 139 = .ok (.iload 4, 2) := by decide +kernel
theorem dX4_addBird_141 : decode cX4_addBird 141 = .ok (.iload 5, 2) := by decide +kernel
theorem dX4_addBird_143 : decode cX4_addBird 143 = .ok (.aload 6, 2) := by decide +kernel
theorem dX4_addBird_145 : decode cX4_addBird 145 = .ok (.getfield 93, 3) := by decide +kernel
theorem dX4_addBird_148 : decode cX4_addBird 148 = .ok (.invokespecial 119, 3) := by decide +kernel
theorem dX4_addBird_151 : decode cX4_addBird 151 = .ok (.aastore, 1) := by decide +kernel
theorem dX4_addBird_152 : decode cX4_addBird 152 = .ok (.aload_n 0, 1) := by decide +kernel
theorem dX4_addBird_153 : decode cX4_addBird 153 = .ok (.dup, 1) := by decide +kernel
theorem dX4_addBird_154 : decode cX4_addBird 154 = .ok (.getfield 114, 3) := by decide +kernel
theorem dX4_addBird_157 : decode cX4_addBird 157 = .ok (.iconst 1, 1) := by decide +kernel
theorem dX4_addBird_158 : decode cX4_addBird 158 = .ok (.iadd, 1) := by decide +kernel
theorem dX4_addBird_159 : decode cX4_addBird 159 = .ok (.putfield 114, 3) := by decide +kernel
theorem dX4_addBird_162 : decode cX4_addBird 162 = .ok (.iload 7, 2) := by decide +kernel
theorem dX4_addBird_164 : decode cX4_addBird 164 = .ok (.ireturn, 1) := by decide +kernel
theorem dX4_pin_0 : decode cX4_pin 0 = .ok (.aload_n 0, 1) := by decide +kernel
theorem dX4_pin_1 : decode cX4_pin 1 = .ok (.iload_n 1, 1) := by decide +kernel
theorem dX4_pin_2 : decode cX4_pin 2 = .ok (.invokevirtual 122, 3) := by decide +kernel
theorem dX4_pin_5 : decode cX4_pin 5 = .ok (.astore 4, 2) := by decide +kernel
theorem dX4_pin_7 : decode cX4_pin 7 = .ok (.aload 4, 2) := by decide +kernel
theorem dX4_pin_9 : decode cX4_pin 9 = .ok (.ifnonnull 13, 3) := by decide +kernel
theorem dX4_pin_12 : decode cX4_pin 12 = .ok (.new 55, 3) := by decide +kernel
theorem dX4_pin_15 : decode cX4_pin 15 = .ok (.dup, 1) := by decide +kernel
theorem dX4_pin_16 : decode cX4_pin 16 = .ok (.ldc 126, 2) := by decide +kernel
theorem dX4_pin_18 : decode cX4_pin 18 = .ok (.invokespecial 59, 3) := by decide +kernel
theorem dX4_pin_21 : decode cX4_pin 21 = .ok (.athrow, 1) := by decide +kernel
theorem dX4_pin_22 : decode cX4_pin 22 = .ok (.aload 4, 2) := by decide +kernel
theorem dX4_pin_24 : decode cX4_pin 24 = .ok (.iload_n 2, 1) := by decide +kernel
theorem dX4_pin_25 : decode cX4_pin 25 = .ok (.invokevirtual 138, 3) := by decide +kernel
theorem dX4_pin_28 : decode cX4_pin 28 = .ok (.ifCond .ne 13, 3) := by decide +kernel
theorem dX4_pin_31 : decode cX4_pin 31 = .ok (.new 32, 3) := by decide +kernel
theorem dX4_pin_34 : decode cX4_pin 34 = .ok (.dup, 1) := by decide +kernel
theorem dX4_pin_35 : decode cX4_pin 35 = .ok (.ldc 142, 2) := by decide +kernel
theorem dX4_pin_37 : decode cX4_pin 37 = .ok (.invokespecial 36, 3) := by decide +kernel
theorem dX4_pin_40 : decode cX4_pin 40 = .ok (.athrow, 1) := by decide +kernel
theorem dX4_pin_41 : decode cX4_pin 41 = .ok (.iload_n 3, 1) := by decide +kernel
theorem dX4_pin_42 : decode cX4_pin 42 = .ok (.iconst 0, 1) := by decide +kernel
theorem dX4_pin_43 : decode cX4_pin 43 = .ok (.iconst 5, 1) := by decide +kernel
theorem dX4_pin_44 : decode cX4_pin 44 = .ok (.invokestatic 28, 3) := by decide +kernel
theorem dX4_pin_47 : decode cX4_pin 47 = .ok (.ifCond .ne 13, 3) := by decide +kernel
theorem dX4_pin_50 : decode cX4_pin 50 = .ok (.new 32, 3) := by decide +kernel
theorem dX4_pin_53 : decode cX4_pin 53 = .ok (.dup, 1) := by decide +kernel
theorem dX4_pin_54 : decode cX4_pin 54 = .ok (.ldc 144, 2) := by decide +kernel
theorem dX4_pin_56 : decode cX4_pin 56 = .ok (.invokespecial 36, 3) := by decide +kernel
theorem dX4_pin_59 : decode cX4_pin 59 = .ok (.athrow, 1) := by decide +kernel
theorem dX4_pin_60 : decode cX4_pin 60 = .ok (.aload 4, 2) := by decide +kernel
theorem dX4_pin_62 : decode cX4_pin 62 = .ok (.iload_n 2, 1) := by decide +kernel
theorem dX4_pin_63 : decode cX4_pin 63 = .ok (.iload_n 3, 1) := by decide +kernel
theorem dX4_pin_64 : decode cX4_pin 64 = .ok (.invokevirtual 146, 3) := by decide +kernel
theorem dX4_pin_67 : decode cX4_pin 67 = .ok (.ifCond .ne 23, 3) := by decide +kernel
theorem dX4_pin_70 : decode cX4_pin 70 = .ok (.aload 4, 2) := by decide +kernel
theorem dX4_pin_72 : decode cX4_pin 72 = .ok (.getfield 150, 3) := by decide +kernel
theorem dX4_pin_75 : decode cX4_pin 75 = .ok (.bipush 24, 2) := by decide +kernel
theorem dX4_pin_77 : decode cX4_pin 77 = .ok (.if_icmp .lt 13, 3) := by decide +kernel
theorem dX4_pin_80 : decode cX4_pin 80 = .ok (.new 43, 3) := by decide +kernel
theorem dX4_pin_83 : decode cX4_pin 83 = .ok (.dup, 1) := by decide +kernel
theorem dX4_pin_84 : decode cX4_pin 84 = .ok (.ldc 153, 2) := by decide +kernel
theorem dX4_pin_86 : decode cX4_pin 86 = .ok (.invokespecial 47, 3) := by decide +kernel
theorem dX4_pin_89 : decode cX4_pin 89 = .ok (.athrow, 1) := by decide +kernel
theorem dX4_pin_90 : decode cX4_pin 90 = .ok (.aload 4, 2) := by decide +kernel
theorem dX4_pin_92 : decode cX4_pin 92 = .ok (.iload_n 2, 1) := by decide +kernel
theorem dX4_pin_93 : decode cX4_pin 93 = .ok (.iload_n 3, 1) := by decide +kernel
theorem dX4_pin_94 : decode cX4_pin 94 = .ok (.invokevirtual 155, 3) := by decide +kernel
theorem dX4_pin_97 : decode cX4_pin 97 = .ok (.aload 4, 2) := by decide +kernel
theorem dX4_pin_99 : decode cX4_pin 99 = .ok (.getfield 150, 3) := by decide +kernel
theorem dX4_pin_102 : decode cX4_pin 102 = .ok (.ireturn, 1) := by decide +kernel
theorem dX4_tune_0 : decode cX4_tune 0 = .ok (.aload_n 0, 1) := by decide +kernel
theorem dX4_tune_1 : decode cX4_tune 1 = .ok (.iload_n 1, 1) := by decide +kernel
end
section
theorem dX4_tune_2 : decode cX4_tune 2 = .ok (.invokevirtual 122, 3) := by decide +kernel
theorem dX4_tune_5 : decode cX4_tune 5 = .ok (.astore 4, 2) := by decide +kernel
theorem dX4_tune_7 : decode cX4_tune 7 = .ok (.aload 4, 2) := by decide +kernel
theorem dX4_tune_9 : decode cX4_tune 9 = .ok (.ifnonnull 13, 3) := by decide +kernel
theorem dX4_tune_12 : decode cX4_tune 12 = .ok (.new 55, 3) := by decide +kernel
theorem dX4_tune_15 : decode cX4_tune 15 = .ok (.dup, 1) := by decide +kernel
theorem dX4_tune_16 : decode cX4_tune 16 = .ok (.ldc 126, 2) := by decide +kernel
theorem dX4_tune_18 : decode cX4_tune 18 = .ok (.invokespecial 59, 3) := by decide +kernel
theorem dX4_tune_21 : decode cX4_tune 21 = .ok (.athrow, 1) := by decide +kernel
theorem dX4_tune_22 : decode cX4_tune 22 = .ok (.iload_n 2, 1) := by decide +kernel
theorem dX4_tune_23 : decode cX4_tune 23 = .ok (.iconst 0, 1) := by decide +kernel
theorem dX4_tune_24 : decode cX4_tune 24 = .ok (.iconst 5, 1) := by decide +kernel
theorem dX4_tune_25 : decode cX4_tune 25 = .ok (.invokestatic 28, 3) := by decide +kernel
theorem dX4_tune_28 : decode cX4_tune 28 = .ok (.ifCond .ne 13, 3) := by decide +kernel
theorem dX4_tune_31 : decode cX4_tune 31 = .ok (.new 55, 3) := by decide +kernel
theorem dX4_tune_34 : decode cX4_tune 34 = .ok (.dup, 1) := by decide +kernel
theorem dX4_tune_35 : decode cX4_tune 35 = .ok (.ldc 144, 2) := by decide +kernel
theorem dX4_tune_37 : decode cX4_tune 37 = .ok (.invokespecial 59, 3) := by decide +kernel
theorem dX4_tune_40 : decode cX4_tune 40 = .ok (.athrow, 1) := by decide +kernel
theorem dX4_tune_41 : decode cX4_tune 41 = .ok (.iload_n 3, 1) := by decide +kernel
theorem dX4_tune_42 : decode cX4_tune 42 = .ok (.iconst 0, 1) := by decide +kernel
theorem dX4_tune_43 : decode cX4_tune 43 = .ok (.bipush 87, 2) := by decide +kernel
theorem dX4_tune_45 : decode cX4_tune 45 = .ok (.invokestatic 28, 3) := by decide +kernel
theorem dX4_tune_48 : decode cX4_tune 48 = .ok (.ifCond .ne 13, 3) := by decide +kernel
theorem dX4_tune_51 : decode cX4_tune 51 = .ok (.new 32, 3) := by decide +kernel
theorem dX4_tune_54 : decode cX4_tune 54 = .ok (.dup, 1) := by decide +kernel
theorem dX4_tune_55 : decode cX4_tune 55 = .ok (.ldc 159, 2) := by decide +kernel
theorem dX4_tune_57 : decode cX4_tune 57 = .ok (.invokespecial 36, 3) := by decide +kernel
theorem dX4_tune_60 : decode cX4_tune 60 = .ok (.athrow, 1) := by decide +kernel
theorem dX4_tune_61 : decode cX4_tune 61 = .ok (.aload 4, 2) := by decide +kernel
theorem dX4_tune_63 : decode cX4_tune 63 = .ok (.getfield 161, 3) := by decide +kernel
theorem dX4_tune_66 : decode cX4_tune 66 = .ok (.iload_n 2, 1) := by decide +kernel
theorem dX4_tune_67 : decode cX4_tune 67 = .ok (.invokestatic 165, 3) := by decide +kernel
theorem dX4_tune_70 : decode cX4_tune 70 = .ok (.istore 5, 2) := by decide +kernel
theorem dX4_tune_72 : decode cX4_tune 72 = .ok (.aload 4, 2) := by decide +kernel
theorem dX4_tune_74 : decode cX4_tune 74 = .ok (.getfield 161, 3) := by decide +kernel
theorem dX4_tune_77 : decode cX4_tune 77 = .ok (.iload_n 2, 1) := by decide +kernel
theorem dX4_tune_78 : decode cX4_tune 78 = .ok (.iload_n 3, 1) := by decide +kernel
theorem dX4_tune_79 : decode cX4_tune 79 = .ok (.invokestatic 169, 3) := by decide +kernel
theorem dX4_tune_82 : decode cX4_tune 82 = .ok (.iload 5, 2) := by decide +kernel
theorem dX4_tune_84 : decode cX4_tune 84 = .ok (.ireturn, 1) := by decide +kernel
theorem dX4_point_0 : decode cX4_point 0 = .ok (.aload_n 0, 1) := by decide +kernel
theorem dX4_point_1 : decode cX4_point 1 = .ok (.iload_n 1, 1) := by decide +kernel
theorem dX4_point_2 : decode cX4_point 2 = .ok (.invokevirtual 122, 3) := by decide +kernel
theorem dX4_point_5 : decode cX4_point 5 = .ok (.astore 5, 2) := by decide +kernel
theorem dX4_point_7 : decode cX4_point 7 = .ok (.aload 5, 2) := by decide +kernel
theorem dX4_point_9 : decode cX4_point 9 = .ok (.ifnonnull 7, 3) := by decide +kernel
theorem dX4_point_12 : decode cX4_point 12 = .ok (.aconst_null, 1) := by decide +kernel
theorem dX4_point_13 : decode cX4_point 13 = .ok (.goto 9, 3) := by decide +kernel
theorem dX4_point_16 : decode cX4_point 16 = .ok (.aload 5, 2) := by decide +kernel
theorem dX4_point_18 : decode cX4_point 18 = .ok (.iload_n 2, 1) := by decide +kernel
theorem dX4_point_19 : decode cX4_point 19 = .ok (.invokevirtual 173, 3) := by decide +kernel
theorem dX4_point_22 : decode cX4_point 22 = .ok (.astore 6, 2) := by decide +kernel
theorem dX4_point_24 : decode cX4_point 24 = .ok (.aload 5, 2) := by decide +kernel
theorem dX4_point_26 : decode cX4_point 26 = .ok (.ifnull 8, 3) := by decide +kernel
theorem dX4_point_29 : decode cX4_point 29 = .ok (.aload 6, 2) := by decide +kernel
theorem dX4_point_31 : decode cX4_point 31 = .ok (.ifnonnull 13, 3) := by decide +kernel
theorem dX4_point_34 : decode cX4_point 34 = .ok (.new 55, 3) := by decide +kernel
theorem dX4_point_37 : decode cX4_point 37 = .ok (.dup, 1) := by decide +kernel
theorem dX4_point_38 : decode cX4_point 38 = .ok (.ldc 177, 2) := by decide +kernel
theorem dX4_point_40 : decode cX4_point 40 = .ok (.invokespecial 59, 3) := by decide +kernel
theorem dX4_point_43 : decode cX4_point 43 = .ok (.athrow, 1) := by decide +kernel
theorem dX4_point_44 : decode cX4_point 44 = .ok (.aload 5, 2) := by decide +kernel
theorem dX4_point_46 : decode cX4_point 46 = .ok (.iload_n 3, 1) := by decide +kernel
theorem dX4_point_47 : decode cX4_point 47 = .ok (.invokevirtual 138, 3) := by decide +kernel
theorem dX4_point_50 : decode cX4_point 50 = .ok (.ifCond .ne 13, 3) := by decide +kernel
theorem dX4_point_53 : decode cX4_point 53 = .ok (.new 32, 3) := by decide +kernel
theorem dX4_point_56 : decode cX4_point 56 = .ok (.dup, 1) := by decide +kernel
theorem dX4_point_57 : decode cX4_point 57 = .ok (.ldc 142, 2) := by decide +kernel
theorem dX4_point_59 : decode cX4_point 59 = .ok (.invokespecial 36, 3) := by decide +kernel
theorem dX4_point_62 : decode cX4_point 62 = .ok (.athrow, 1) := by decide +kernel
theorem dX4_point_63 : decode cX4_point 63 = .ok (.iload 4, 2) := by decide +kernel
theorem dX4_point_65 : decode cX4_point 65 = .ok (.iconst (-1), 1) := by decide +kernel
theorem dX4_point_66 : decode cX4_point 66 = .ok (.bipush 100, 2) := by decide +kernel
theorem dX4_point_68 : decode cX4_point 68 = .ok (.invokestatic 28, 3) := by decide +kernel
theorem dX4_point_71 : decode cX4_point 71 = .ok (.ifCond .ne 13, 3) := by decide +kernel
theorem dX4_point_74 : decode cX4_point 74 = .ok (.new 32, 3) := by decide +kernel
theorem dX4_point_77 : decode cX4_point 77 = .ok (.dup, 1) := by decide +kernel
theorem dX4_point_78 : decode cX4_point 78 = .ok (.ldc 179, 2) := by decide +kernel
theorem dX4_point_80 : decode cX4_point 80 = .ok (.invokespecial 36, 3) := by decide +kernel
theorem dX4_point_83 : decode cX4_point 83 = .ok (.athrow, 1) := by decide +kernel
theorem dX4_point_84 : decode cX4_point 84 = .ok (.aload 6, 2) := by decide +kernel
theorem dX4_point_86 : decode cX4_point 86 = .ok (.iload_n 3, 1) := by decide +kernel
theorem dX4_point_87 : decode cX4_point 87 = .ok (.invokevirtual 181, 3) := by decide +kernel
theorem dX4_point_90 : decode cX4_point 90 = .ok (.istore 7, 2) := by decide +kernel
theorem dX4_point_92 : decode cX4_point 92 = .ok (.iload 4, 2) := by decide +kernel
theorem dX4_point_94 : decode cX4_point 94 = .ok (.iconst (-1), 1) := by decide +kernel
theorem dX4_point_95 : decode cX4_point 95 = .ok (.if_icmp .ne 18, 3) := by decide +kernel
theorem dX4_point_98 : decode cX4_point 98 = .ok (.iload 7, 2) := by decide +kernel
theorem dX4_point_100 : decode cX4_point 100 = .ok (.ifCond .ne 13, 3) := by decide +kernel
theorem dX4_point_103 : decode cX4_point 103 = .ok (.new 43, 3) := by decide +kernel
theorem dX4_point_106 : decode cX4_point 106 = .ok (.dup, 1) := by decide +kernel
theorem dX4_point_107 : decode cX4_point 107 = .ok (.ldc 186, 2) := by decide +kernel
theorem dX4_point_109 : decode cX4_point 109 = .ok (.invokespecial 47, 3) := by decide +kernel
theorem dX4_point_112 : decode cX4_point 112 = .ok (.athrow, 1) := by decide +kernel
theorem dX4_point_113 : decode cX4_point 113 = .ok (.iload 7, 2) := by decide +kernel
theorem dX4_point_115 : decode cX4_point 115 = .ok (.ifCond .ne 23, 3) := by decide +kernel
theorem dX4_point_118 : decode cX4_point 118 = .ok (.aload 6, 2) := by decide +kernel
theorem dX4_point_120 : decode cX4_point 120 = .ok (.getfield 188, 3) := by decide +kernel
theorem dX4_point_123 : decode cX4_point 123 = .ok (.bipush 8, 2) := by decide +kernel
theorem dX4_point_125 : decode cX4_point 125 = .ok (.if_icmp .lt 13, 3) := by decide +kernel
theorem dX4_point_128 : decode cX4_point 128 = .ok (.new 43, 3) := by decide +kernel
theorem dX4_point_131 : decode cX4_point 131 = .ok (.dup, 1) := by decide +kernel
theorem dX4_point_132 : decode cX4_point 132 = .ok (.ldc 191, 2) := by decide +kernel
theorem dX4_point_134 : decode cX4_point 134 = .ok (.invokespecial 47, 3) := by decide +kernel
theorem dX4_point_137 : decode cX4_point 137 = .ok (.athrow, 1) := by decide +kernel
theorem dX4_point_138 : decode cX4_point 138 = .ok (.iload 4, 2) := by decide +kernel
theorem dX4_point_140 : decode cX4_point 140 = .ok (.iconst (-1), 1) := by decide +kernel
theorem dX4_point_141 : decode cX4_point 141 = .ok (.if_icmp .ne 17, 3) := by decide +kernel
theorem dX4_point_144 : decode cX4_point 144 = .ok (.aload 6, 2) := by decide +kernel
theorem dX4_point_146 : decode cX4_point 146 = .ok (.iload_n 3, 1) := by decide +kernel
theorem dX4_point_147 : decode cX4_point 147 = .ok (.aload 5, 2) := by decide +kernel
theorem dX4_point_149 : decode cX4_point 149 = .ok (.getfield 193, 3) := by decide +kernel
theorem dX4_point_152 : decode cX4_point 152 = .ok (.invokevirtual 196, 3) := by decide +kernel
theorem dX4_point_155 : decode cX4_point 155 = .ok (.goto 16, 3) := by decide +kernel
theorem dX4_point_158 : decode cX4_point 158 = .ok (.aload 6, 2) := by decide +kernel
theorem dX4_point_160 : decode cX4_point 160 = .ok (.iload_n 3, 1) := by decide +kernel
theorem dX4_point_161 : decode cX4_point 161 = .ok (.iload 4, 2) := by decide +kernel
theorem dX4_point_163 : decode cX4_point 163 = .ok (.aload 5, 2) := by decide +kernel
theorem dX4_point_165 : decode cX4_point 165 = .ok (.getfield 193, 3) := by decide +kernel
theorem dX4_point_168 : decode cX4_point 168 = .ok (.invokevirtual 199, 3) := by decide +kernel
theorem dX4_point_171 : decode cX4_point 171 = .ok (.aload 6, 2) := by decide +kernel
theorem dX4_point_173 : decode cX4_point 173 = .ok (.getfield 188, 3) := by decide +kernel
theorem dX4_point_176 : decode cX4_point 176 = .ok (.ireturn, 1) := by decide +kernel
theorem dX4_bird_0 : decode cX4_bird 0 = .ok (.aload_n 0, 1) := by decide +kernel
theorem dX4_bird_1 : decode cX4_bird 1 = .ok (.iload_n 1, 1) := by decide +kernel
theorem dX4_bird_2 : decode cX4_bird 2 = .ok (.invokevirtual 122, 3) := by decide +kernel
theorem dX4_bird_5 : decode cX4_bird 5 = .ok (.astore_n 3, 1) := by decide +kernel
theorem dX4_bird_6 : decode cX4_bird 6 = .ok (.aload_n 3, 1) := by decide +kernel
theorem dX4_bird_7 : decode cX4_bird 7 = .ok (.ifnonnull 13, 3) := by decide +kernel
theorem dX4_bird_10 : decode cX4_bird 10 = .ok (.new 55, 3) := by decide +kernel
theorem dX4_bird_13 : decode cX4_bird 13 = .ok (.dup, 1) := by decide +kernel
theorem dX4_bird_14 : decode cX4_bird 14 = .ok (.ldc 126, 2) := by decide +kernel
theorem dX4_bird_16 : decode cX4_bird 16 = .ok (.invokespecial 59, 3) := by decide +kernel
theorem dX4_bird_19 : decode cX4_bird 19 = .ok (.athrow, 1) := by decide +kernel
theorem dX4_bird_20 : decode cX4_bird 20 = .ok (.iload_n 2, 1) := by decide +kernel
theorem dX4_bird_21 : decode cX4_bird 21 = .ok (.tableswitch 114 0 9 #[55, 60, 65, 70, 75, 80, 85, 98, 103, 109], 55) := by decide +kernel
theorem dX4_bird_76 : decode cX4_bird 76 = .ok (.aload_n 3, 1) := by decide +kernel
theorem dX4_bird_77 : decode cX4_bird 77 = .ok (.getfield 131, 3) := by decide +kernel
theorem dX4_bird_80 : decode cX4_bird 80 = .ok (.ireturn, 1) := by decide +kernel
theorem dX4_bird_81 : decode cX4_bird 81 = .ok (.aload_n 3, 1) := by decide +kernel
theorem dX4_bird_82 : decode cX4_bird 82 = .ok (.getfield 203, 3) := by decide +kernel
theorem dX4_bird_85 : decode cX4_bird 85 = .ok (.ireturn, 1) := by decide +kernel
theorem dX4_bird_86 : decode cX4_bird 86 = .ok (.aload_n 3, 1) := by decide +kernel
theorem dX4_bird_87 : decode cX4_bird 87 = .ok (.getfield 193, 3) := by decide +kernel
theorem dX4_bird_90 : decode cX4_bird 90 = .ok (.ireturn, 1) := by decide +kernel
theorem dX4_bird_91 : decode cX4_bird 91 = .ok (.aload_n 3, 1) := by decide +kernel
theorem dX4_bird_92 : decode cX4_bird 92 = .ok (.getfield 206, 3) := by decide +kernel
theorem dX4_bird_95 : decode cX4_bird 95 = .ok (.ireturn, 1) := by decide +kernel
theorem dX4_bird_96 : decode cX4_bird 96 = .ok (.aload_n 3, 1) := by decide +kernel
theorem dX4_bird_97 : decode cX4_bird 97 = .ok (.getfield 209, 3) := by decide +kernel
theorem dX4_bird_100 : decode cX4_bird 100 = .ok (.ireturn, 1) := by decide +kernel
theorem dX4_bird_101 : decode cX4_bird 101 = .ok (.aload_n 3, 1) := by decide +kernel
theorem dX4_bird_102 : decode cX4_bird 102 = .ok (.invokevirtual 212, 3) := by decide +kernel
theorem dX4_bird_105 : decode cX4_bird 105 = .ok (.ireturn, 1) := by decide +kernel
theorem dX4_bird_106 : decode cX4_bird 106 = .ok (.aload_n 3, 1) := by decide +kernel
theorem dX4_bird_107 : decode cX4_bird 107 = .ok (.getfield 128, 3) := by decide +kernel
theorem dX4_bird_110 : decode cX4_bird 110 = .ok (.ifCond .eq 7, 3) := by decide +kernel
theorem dX4_bird_113 : decode cX4_bird 113 = .ok (.iconst 1, 1) := by decide +kernel
theorem dX4_bird_114 : decode cX4_bird 114 = .ok (.goto 4, 3) := by decide +kernel
theorem dX4_bird_117 : decode cX4_bird 117 = .ok (.iconst 0, 1) := by decide +kernel
theorem dX4_bird_118 : decode cX4_bird 118 = .ok (.ireturn, 1) := by decide +kernel
theorem dX4_bird_119 : decode cX4_bird 119 = .ok (.aload_n 3, 1) := by decide +kernel
theorem dX4_bird_120 : decode cX4_bird 120 = .ok (.getfield 150, 3) := by decide +kernel
theorem dX4_bird_123 : decode cX4_bird 123 = .ok (.ireturn, 1) := by decide +kernel
theorem dX4_bird_124 : decode cX4_bird 124 = .ok (.aload_n 3, 1) := by decide +kernel
theorem dX4_bird_125 : decode cX4_bird 125 = .ok (.getfield 216, 3) := by decide +kernel
theorem dX4_bird_128 : decode cX4_bird 128 = .ok (.l2i, 1) := by decide +kernel
theorem dX4_bird_129 : decode cX4_bird 129 = .ok (.ireturn, 1) := by decide +kernel
theorem dX4_bird_130 : decode cX4_bird 130 = .ok (.aload_n 3, 1) := by decide +kernel
theorem dX4_bird_131 : decode cX4_bird 131 = .ok (.getfield 219, 3) := by decide +kernel
theorem dX4_bird_134 : decode cX4_bird 134 = .ok (.ireturn, 1) := by decide +kernel
theorem dX4_bird_135 : decode cX4_bird 135 = .ok (.new 55, 3) := by decide +kernel
theorem dX4_bird_138 : decode cX4_bird 138 = .ok (.dup, 1) := by decide +kernel
theorem dX4_bird_139 : decode cX4_bird 139 = .ok (.ldc 222, 2) := by decide +kernel
theorem dX4_bird_141 : decode cX4_bird 141 = .ok (.invokespecial 59, 3) := by decide +kernel
theorem dX4_bird_144 : decode cX4_bird 144 = .ok (.athrow, 1) := by decide +kernel
theorem dX4_lift_0 : decode cX4_lift 0 = .ok (.aload_n 0, 1) := by decide +kernel
theorem dX4_lift_1 : decode cX4_lift 1 = .ok (.iload_n 1, 1) := by decide +kernel
theorem dX4_lift_2 : decode cX4_lift 2 = .ok (.invokevirtual 122, 3) := by decide +kernel
theorem dX4_lift_5 : decode cX4_lift 5 = .ok (.astore 4, 2) := by decide +kernel
theorem dX4_lift_7 : decode cX4_lift 7 = .ok (.aload 4, 2) := by decide +kernel
theorem dX4_lift_9 : decode cX4_lift 9 = .ok (.ifnonnull 7, 3) := by decide +kernel
theorem dX4_lift_12 : decode cX4_lift 12 = .ok (.aconst_null, 1) := by decide +kernel
theorem dX4_lift_13 : decode cX4_lift 13 = .ok (.goto 9, 3) := by decide +kernel
theorem dX4_lift_16 : decode cX4_lift 16 = .ok (.aload 4, 2) := by decide +kernel
theorem dX4_lift_18 : decode cX4_lift 18 = .ok (.iload_n 2, 1) := by decide +kernel
theorem dX4_lift_19 : decode cX4_lift 19 = .ok (.invokevirtual 173, 3) := by decide +kernel
theorem dX4_lift_22 : decode cX4_lift 22 = .ok (.astore 5, 2) := by decide +kernel
theorem dX4_lift_24 : decode cX4_lift 24 = .ok (.aload 4, 2) := by decide +kernel
theorem dX4_lift_26 : decode cX4_lift 26 = .ok (.ifnull 8, 3) := by decide +kernel
theorem dX4_lift_29 : decode cX4_lift 29 = .ok (.aload 5, 2) := by decide +kernel
theorem dX4_lift_31 : decode cX4_lift 31 = .ok (.ifnonnull 13, 3) := by decide +kernel
theorem dX4_lift_34 : decode cX4_lift 34 = .ok (.new 55, 3) := by decide +kernel
theorem dX4_lift_37 : decode cX4_lift 37 = .ok (.dup, 1) := by decide +kernel
theorem dX4_lift_38 : decode cX4_lift 38 = .ok (.ldc 177, 2) := by decide +kernel
theorem dX4_lift_40 : decode cX4_lift 40 = .ok (.invokespecial 59, 3) := by decide +kernel
theorem dX4_lift_43 : decode cX4_lift 43 = .ok (.athrow, 1) := by decide +kernel
theorem dX4_lift_44 : decode cX4_lift 44 = .ok (.iload_n 3, 1) := by decide +kernel
theorem dX4_lift_45 : decode cX4_lift 45 = .ok (.iconst (-1), 1) := by decide +kernel
theorem dX4_lift_46 : decode cX4_lift 46 = .ok (.if_icmp .eq 22, 3) := by decide +kernel
theorem dX4_lift_49 : decode cX4_lift 49 = .ok (.aload 4, 2) := by decide +kernel
theorem dX4_lift_51 : decode cX4_lift 51 = .ok (.iload_n 3, 1) := by decide +kernel
theorem dX4_lift_52 : decode cX4_lift 52 = .ok (.invokevirtual 138, 3) := by decide +kernel
theorem dX4_lift_55 : decode cX4_lift 55 = .ok (.ifCond .ne 13, 3) := by decide +kernel
theorem dX4_lift_58 : decode cX4_lift 58 = .ok (.new 32, 3) := by decide +kernel
theorem dX4_lift_61 : decode cX4_lift 61 = .ok (.dup, 1) := by decide +kernel
theorem dX4_lift_62 : decode cX4_lift 62 = .ok (.ldc 224, 2) := by decide +kernel
theorem dX4_lift_64 : decode cX4_lift 64 = .ok (.invokespecial 36, 3) := by decide +kernel
theorem dX4_lift_67 : decode cX4_lift 67 = .ok (.athrow, 1) := by decide +kernel
theorem dX4_lift_68 : decode cX4_lift 68 = .ok (.aload 5, 2) := by decide +kernel
theorem dX4_lift_70 : decode cX4_lift 70 = .ok (.getfield 226, 3) := by decide +kernel
theorem dX4_lift_73 : decode cX4_lift 73 = .ok (.iload_n 3, 1) := by decide +kernel
theorem dX4_lift_74 : decode cX4_lift 74 = .ok (.iconst (-1), 1) := by decide +kernel
theorem dX4_lift_75 : decode cX4_lift 75 = .ok (.if_icmp .ne 11, 3) := by decide +kernel
theorem dX4_lift_78 : decode cX4_lift 78 = .ok (.aload 4, 2) := by decide +kernel
theorem dX4_lift_80 : decode cX4_lift 80 = .ok (.invokevirtual 212, 3) := by decide +kernel
theorem dX4_lift_83 : decode cX4_lift 83 = .ok (.goto 4, 3) := by decide +kernel
theorem dX4_lift_86 : decode cX4_lift 86 = .ok (.iload_n 3, 1) := by decide +kernel
theorem dX4_lift_87 : decode cX4_lift 87 = .ok (.invokestatic 165, 3) := by decide +kernel
theorem dX4_lift_90 : decode cX4_lift 90 = .ok (.ireturn, 1) := by decide +kernel
theorem dX4_run_0 : decode cX4_run 0 = .ok (.iload_n 1, 1) := by decide +kernel
theorem dX4_run_1 : decode cX4_run 1 = .ok (.iconst 1, 1) := by decide +kernel
theorem dX4_run_2 : decode cX4_run 2 = .ok (.sipush 500, 3) := by decide +kernel
theorem dX4_run_5 : decode cX4_run 5 = .ok (.invokestatic 28, 3) := by decide +kernel
theorem dX4_run_8 : decode cX4_run 8 = .ok (.ifCond .ne 13, 3) := by decide +kernel
theorem dX4_run_11 : decode cX4_run 11 = .ok (.new 32, 3) := by decide +kernel
theorem dX4_run_14 : decode cX4_run 14 = .ok (.dup, 1) := by decide +kernel
theorem dX4_run_15 : decode cX4_run 15 = .ok (.ldc 229, 2) := by decide +kernel
theorem dX4_run_17 : decode cX4_run 17 = .ok (.invokespecial 36, 3) := by decide +kernel
theorem dX4_run_20 : decode cX4_run 20 = .ok (.athrow, 1) := by decide +kernel
theorem dX4_run_21 : decode cX4_run 21 = .ok (.iconst 0, 1) := by decide +kernel
theorem dX4_run_22 : decode cX4_run 22 = .ok (.istore_n 2, 1) := by decide +kernel
theorem dX4_run_23 : decode cX4_run 23 = .ok (.iconst 0, 1) := by decide +kernel
theorem dX4_run_24 : decode cX4_run 24 = .ok (.istore_n 3, 1) := by decide +kernel
theorem dX4_run_25 : decode cX4_run 25 = .ok (.iload_n 3, 1) := by decide +kernel
theorem dX4_run_26 : decode cX4_run 26 = .ok (.iload_n 1, 1) := by decide +kernel
theorem dX4_run_27 : decode cX4_run 27 = .ok (.if_icmp .ge 16, 3) := by decide +kernel
theorem dX4_run_30 : decode cX4_run 30 = .ok (.iload_n 2, 1) := by decide +kernel
theorem dX4_run_31 : decode cX4_run 31 = .ok (.aload_n 0, 1) := by decide +kernel
theorem dX4_run_32 : decode cX4_run 32 = .ok (.invokevirtual 231, 3) := by decide +kernel
theorem dX4_run_35 : decode cX4_run 35 = .ok (.iadd, 1) := by decide +kernel
theorem dX4_run_36 : decode cX4_run 36 = .ok (.istore_n 2, 1) := by decide +kernel
theorem dX4_run_37 : decode cX4_run 37 = .ok (.iinc 3 1, 3) := by decide +kernel
theorem dX4_run_40 : decode cX4_run 40 = .ok (.goto (-15), 3) := by decide +kernel
theorem dX4_run_43 : decode cX4_run 43 = .ok (.iload_n 2, 1) := by decide +kernel
theorem dX4_run_44 : decode cX4_run 44 = .ok (.ireturn, 1) := by decide +kernel
theorem dX4_count_0 : decode cX4_count 0 = .ok (.iload_n 1, 1) := by decide +kernel
theorem dX4_count_1 : decode cX4_count 1 = .ok (.tableswitch 75 0 5 #[39, 44, 49, 54, 62, 70], 39) := by decide +kernel
theorem dX4_count_40 : decode cX4_count 40 = .ok (.aload_n 0, 1) := by decide +kernel
theorem dX4_count_41 : decode cX4_count 41 = .ok (.getfield 234, 3) := by decide +kernel
theorem dX4_count_44 : decode cX4_count 44 = .ok (.ireturn, 1) := by decide +kernel
theorem dX4_count_45 : decode cX4_count 45 = .ok (.aload_n 0, 1) := by decide +kernel
theorem dX4_count_46 : decode cX4_count 46 = .ok (.getfield 39, 3) := by decide +kernel
theorem dX4_count_49 : decode cX4_count 49 = .ok (.ireturn, 1) := by decide +kernel
theorem dX4_count_50 : decode cX4_count 50 = .ok (.aload_n 0, 1) := by decide +kernel
theorem dX4_count_51 : decode cX4_count 51 = .ok (.getfield 114, 3) := by decide +kernel
theorem dX4_count_54 : decode cX4_count 54 = .ok (.ireturn, 1) := by decide +kernel
theorem dX4_count_55 : decode cX4_count 55 = .ok (.aload_n 0, 1) := by decide +kernel
theorem dX4_count_56 : decode cX4_count 56 = .ok (.getfield 81, 3) := by decide +kernel
theorem dX4_count_59 : decode cX4_count 59 = .ok (.invokestatic 84, 3) := by decide +kernel
theorem dX4_count_62 : decode cX4_count 62 = .ok (.ireturn, 1) := by decide +kernel
theorem dX4_count_63 : decode cX4_count 63 = .ok (.aload_n 0, 1) := by decide +kernel
theorem dX4_count_64 : decode cX4_count 64 = .ok (.getfield 24, 3) := by decide +kernel
theorem dX4_count_67 : decode cX4_count 67 = .ok (.getfield 237, 3) := by decide +kernel
theorem dX4_count_70 : decode cX4_count 70 = .ok (.ireturn, 1) := by decide +kernel
theorem dX4_count_71 : decode cX4_count 71 = .ok (.aload_n 0, 1) := by decide +kernel
theorem dX4_count_72 : decode cX4_count 72 = .ok (.invokevirtual 240, 3) := by decide +kernel
theorem dX4_count_75 : decode cX4_count 75 = .ok (.ireturn, 1) := by decide +kernel
theorem dX4_count_76 : decode cX4_count 76 = .ok (.new 55, 3) := by decide +kernel
theorem dX4_count_79 : decode cX4_count 79 = .ok (.dup, 1) := by decide +kernel
theorem dX4_count_80 : decode cX4_count 80 = .ok (.ldc 243, 2) := by decide +kernel
theorem dX4_count_82 : decode cX4_count 82 = .ok (.invokespecial 59, 3) := by decide +kernel
theorem dX4_count_85 : decode cX4_count 85 = .ok (.athrow, 1) := by decide +kernel
theorem dX4_sung_0 : decode cX4_sung 0 = .ok (.iload_n 1, 1) := by decide +kernel
theorem dX4_sung_1 : decode cX4_sung 1 = .ok (.iconst 0, 1) := by decide +kernel
theorem dX4_sung_2 : decode cX4_sung 2 = .ok (.aload_n 0, 1) := by decide +kernel
theorem dX4_sung_3 : decode cX4_sung 3 = .ok (.getfield 24, 3) := by decide +kernel
theorem dX4_sung_6 : decode cX4_sung 6 = .ok (.getfield 245, 3) := by decide +kernel
theorem dX4_sung_9 : decode cX4_sung 9 = .ok (.iconst 1, 1) := by decide +kernel
theorem dX4_sung_10 : decode cX4_sung 10 = .ok (.isub, 1) := by decide +kernel
theorem dX4_sung_11 : decode cX4_sung 11 = .ok (.invokestatic 28, 3) := by decide +kernel
theorem dX4_sung_14 : decode cX4_sung 14 = .ok (.ifCond .ne 13, 3) := by decide +kernel
theorem dX4_sung_17 : decode cX4_sung 17 = .ok (.new 55, 3) := by decide +kernel
theorem dX4_sung_20 : decode cX4_sung 20 = .ok (.dup, 1) := by decide +kernel
theorem dX4_sung_21 : decode cX4_sung 21 = .ok (.ldc 248, 2) := by decide +kernel
theorem dX4_sung_23 : decode cX4_sung 23 = .ok (.invokespecial 59, 3) := by decide +kernel
theorem dX4_sung_26 : decode cX4_sung 26 = .ok (.athrow, 1) := by decide +kernel
theorem dX4_sung_27 : decode cX4_sung 27 = .ok (.iload_n 2, 1) := by decide +kernel
theorem dX4_sung_28 : decode cX4_sung 28 = .ok (.iconst 0, 1) := by decide +kernel
theorem dX4_sung_29 : decode cX4_sung 29 = .ok (.iconst 3, 1) := by decide +kernel
theorem dX4_sung_30 : decode cX4_sung 30 = .ok (.invokestatic 28, 3) := by decide +kernel
theorem dX4_sung_33 : decode cX4_sung 33 = .ok (.ifCond .ne 13, 3) := by decide +kernel
theorem dX4_sung_36 : decode cX4_sung 36 = .ok (.new 55, 3) := by decide +kernel
theorem dX4_sung_39 : decode cX4_sung 39 = .ok (.dup, 1) := by decide +kernel
theorem dX4_sung_40 : decode cX4_sung 40 = .ok (.ldc 250, 2) := by decide +kernel
theorem dX4_sung_42 : decode cX4_sung 42 = .ok (.invokespecial 59, 3) := by decide +kernel
theorem dX4_sung_45 : decode cX4_sung 45 = .ok (.athrow, 1) := by decide +kernel
theorem dX4_sung_46 : decode cX4_sung 46 = .ok (.aload_n 0, 1) := by decide +kernel
theorem dX4_sung_47 : decode cX4_sung 47 = .ok (.getfield 24, 3) := by decide +kernel
theorem dX4_sung_50 : decode cX4_sung 50 = .ok (.iload_n 1, 1) := by decide +kernel
theorem dX4_sung_51 : decode cX4_sung 51 = .ok (.iload_n 2, 1) := by decide +kernel
theorem dX4_sung_52 : decode cX4_sung 52 = .ok (.invokevirtual 252, 3) := by decide +kernel
theorem dX4_sung_55 : decode cX4_sung 55 = .ok (.ireturn, 1) := by decide +kernel
theorem dX4_chord_0 : decode cX4_chord 0 = .ok (.iload_n 1, 1) := by decide +kernel
theorem dX4_chord_1 : decode cX4_chord 1 = .ok (.ifCond .ge 13, 3) := by decide +kernel
theorem dX4_chord_4 : decode cX4_chord 4 = .ok (.new 32, 3) := by decide +kernel
theorem dX4_chord_7 : decode cX4_chord 7 = .ok (.dup, 1) := by decide +kernel
theorem dX4_chord_8 : decode cX4_chord 8 = .ok (.ldc 255, 2) := by decide +kernel
theorem dX4_chord_10 : decode cX4_chord 10 = .ok (.invokespecial 36, 3) := by decide +kernel
theorem dX4_chord_13 : decode cX4_chord 13 = .ok (.athrow, 1) := by decide +kernel
theorem dX4_chord_14 : decode cX4_chord 14 = .ok (.lconst 0, 1) := by decide +kernel
theorem dX4_chord_15 : decode cX4_chord 15 = .ok (.lstore_n 2, 1) := by decide +kernel
theorem dX4_chord_16 : decode cX4_chord 16 = .ok (.lconst 0, 1) := by decide +kernel
theorem dX4_chord_17 : decode cX4_chord 17 = .ok (.lstore 4, 2) := by decide +kernel
theorem dX4_chord_19 : decode cX4_chord 19 = .ok (.iconst 0, 1) := by decide +kernel
theorem dX4_chord_20 : decode cX4_chord 20 = .ok (.istore 6, 2) := by decide +kernel
theorem dX4_chord_22 : decode cX4_chord 22 = .ok (.iload 6, 2) := by decide +kernel
theorem dX4_chord_24 : decode cX4_chord 24 = .ok (.aload_n 0, 1) := by decide +kernel
theorem dX4_chord_25 : decode cX4_chord 25 = .ok (.getfield 24, 3) := by decide +kernel
theorem dX4_chord_28 : decode cX4_chord 28 = .ok (.getfield 245, 3) := by decide +kernel
theorem dX4_chord_31 : decode cX4_chord 31 = .ok (.if_icmp .ge 64, 3) := by decide +kernel
theorem dX4_chord_34 : decode cX4_chord 34 = .ok (.aload_n 0, 1) := by decide +kernel
theorem dX4_chord_35 : decode cX4_chord 35 = .ok (.getfield 24, 3) := by decide +kernel
theorem dX4_chord_38 : decode cX4_chord 38 = .ok (.iload 6, 2) := by decide +kernel
theorem dX4_chord_40 : decode cX4_chord 40 = .ok (.iconst 0, 1) := by decide +kernel
theorem dX4_chord_41 : decode cX4_chord 41 = .ok (.invokevirtual 252, 3) := by decide +kernel
theorem dX4_chord_44 : decode cX4_chord 44 = .ok (.iload_n 1, 1) := by decide +kernel
theorem dX4_chord_45 : decode cX4_chord 45 = .ok (.if_icmp .ne 44, 3) := by decide +kernel
theorem dX4_chord_48 : decode cX4_chord 48 = .ok (.aload_n 0, 1) := by decide +kernel
theorem dX4_chord_49 : decode cX4_chord 49 = .ok (.getfield 24, 3) := by decide +kernel
theorem dX4_chord_52 : decode cX4_chord 52 = .ok (.iload 6, 2) := by decide +kernel
theorem dX4_chord_54 : decode cX4_chord 54 = .ok (.iconst 3, 1) := by decide +kernel
theorem dX4_chord_55 : decode cX4_chord 55 = .ok (.invokevirtual 252, 3) := by decide +kernel
theorem dX4_chord_58 : decode cX4_chord 58 = .ok (.istore 7, 2) := by decide +kernel
theorem dX4_chord_60 : decode cX4_chord 60 = .ok (.iload 7, 2) := by decide +kernel
theorem dX4_chord_62 : decode cX4_chord 62 = .ok (.bipush 64, 2) := by decide +kernel
theorem dX4_chord_64 : decode cX4_chord 64 = .ok (.if_icmp .ge 13, 3) := by decide +kernel
theorem dX4_chord_67 : decode cX4_chord 67 = .ok (.lload_n 2, 1) := by decide +kernel
theorem dX4_chord_68 : decode cX4_chord 68 = .ok (.lconst 1, 1) := by decide +kernel
theorem dX4_chord_69 : decode cX4_chord 69 = .ok (.iload 7, 2) := by decide +kernel
theorem dX4_chord_71 : decode cX4_chord 71 = .ok (.lshl, 1) := by decide +kernel
theorem dX4_chord_72 : decode cX4_chord 72 = .ok (.lor, 1) := by decide +kernel
theorem dX4_chord_73 : decode cX4_chord 73 = .ok (.lstore_n 2, 1) := by decide +kernel
theorem dX4_chord_74 : decode cX4_chord 74 = .ok (.goto 15, 3) := by decide +kernel
theorem dX4_chord_77 : decode cX4_chord 77 = .ok (.lload 4, 2) := by decide +kernel
theorem dX4_chord_79 : decode cX4_chord 79 = .ok (.lconst 1, 1) := by decide +kernel
theorem dX4_chord_80 : decode cX4_chord 80 = .ok (.iload 7, 2) := by decide +kernel
theorem dX4_chord_82 : decode cX4_chord 82 = .ok (.bipush 64, 2) := by decide +kernel
theorem dX4_chord_84 : decode cX4_chord 84 = .ok (.isub, 1) := by decide +kernel
theorem dX4_chord_85 : decode cX4_chord 85 = .ok (.lshl, 1) := by decide +kernel
theorem dX4_chord_86 : decode cX4_chord 86 = .ok (.lor, 1) := by decide +kernel
theorem dX4_chord_87 : decode cX4_chord 87 = .ok (.lstore 4, 2) := by decide +kernel
theorem dX4_chord_89 : decode cX4_chord 89 = .ok (.iinc 6 1, 3) := by decide +kernel
theorem dX4_chord_92 : decode cX4_chord 92 = .ok (.goto (-70), 3) := by decide +kernel
theorem dX4_chord_95 : decode cX4_chord 95 = .ok (.lload_n 2, 1) := by decide +kernel
theorem dX4_chord_96 : decode cX4_chord 96 = .ok (.invokestatic 257, 3) := by decide +kernel
theorem dX4_chord_99 : decode cX4_chord 99 = .ok (.lload 4, 2) := by decide +kernel
theorem dX4_chord_101 : decode cX4_chord 101 = .ok (.invokestatic 257, 3) := by decide +kernel
theorem dX4_chord_104 : decode cX4_chord 104 = .ok (.iadd, 1) := by decide +kernel
theorem dX4_chord_105 : decode cX4_chord 105 = .ok (.ireturn, 1) := by decide +kernel
theorem dX4_longest_0 : decode cX4_longest 0 = .ok (.iconst 0, 1) := by decide +kernel
theorem dX4_longest_1 : decode cX4_longest 1 = .ok (.istore_n 1, 1) := by decide +kernel
theorem dX4_longest_2 : decode cX4_longest 2 = .ok (.iconst 0, 1) := by decide +kernel
theorem dX4_longest_3 : decode cX4_longest 3 = .ok (.istore_n 2, 1) := by decide +kernel
theorem dX4_longest_4 : decode cX4_longest 4 = .ok (.iconst (-1), 1) := by decide +kernel
theorem dX4_longest_5 : decode cX4_longest 5 = .ok (.istore_n 3, 1) := by decide +kernel
theorem dX4_longest_6 : decode cX4_longest 6 = .ok (.iconst 0, 1) := by decide +kernel
theorem dX4_longest_7 : decode cX4_longest 7 = .ok (.istore 4, 2) := by decide +kernel
theorem dX4_longest_9 : decode cX4_longest 9 = .ok (.iload 4, 2) := by decide +kernel
theorem dX4_longest_11 : decode cX4_longest 11 = .ok (.aload_n 0, 1) := by decide +kernel
theorem dX4_longest_12 : decode cX4_longest 12 = .ok (.getfield 24, 3) := by decide +kernel
theorem dX4_longest_15 : decode cX4_longest 15 = .ok (.getfield 245, 3) := by decide +kernel
theorem dX4_longest_18 : decode cX4_longest 18 = .ok (.if_icmp .ge 44, 3) := by decide +kernel
theorem dX4_longest_21 : decode cX4_longest 21 = .ok (.aload_n 0, 1) := by decide +kernel
theorem dX4_longest_22 : decode cX4_longest 22 = .ok (.getfield 24, 3) := by decide +kernel
theorem dX4_longest_25 : decode cX4_longest 25 = .ok (.iload 4, 2) := by decide +kernel
theorem dX4_longest_27 : decode cX4_longest 27 = .ok (.iconst 1, 1) := by decide +kernel
theorem dX4_longest_28 : decode cX4_longest 28 = .ok (.invokevirtual 252, 3) := by decide +kernel
theorem dX4_longest_31 : decode cX4_longest 31 = .ok (.istore 5, 2) := by decide +kernel
theorem dX4_longest_33 : decode cX4_longest 33 = .ok (.iload 5, 2) := by decide +kernel
theorem dX4_longest_35 : decode cX4_longest 35 = .ok (.iload_n 3, 1) := by decide +kernel
theorem dX4_longest_36 : decode cX4_longest 36 = .ok (.if_icmp .ne 9, 3) := by decide +kernel
theorem dX4_longest_39 : decode cX4_longest 39 = .ok (.iload_n 2, 1) := by decide +kernel
theorem dX4_longest_40 : decode cX4_longest 40 = .ok (.iconst 1, 1) := by decide +kernel
theorem dX4_longest_41 : decode cX4_longest 41 = .ok (.iadd, 1) := by decide +kernel
theorem dX4_longest_42 : decode cX4_longest 42 = .ok (.goto 4, 3) := by decide +kernel
theorem dX4_longest_45 : decode cX4_longest 45 = .ok (.iconst 1, 1) := by decide +kernel
theorem dX4_longest_46 : decode cX4_longest 46 = .ok (.istore_n 2, 1) := by decide +kernel
theorem dX4_longest_47 : decode cX4_longest 47 = .ok (.iload 5, 2) := by decide +kernel
theorem dX4_longest_49 : decode cX4_longest 49 = .ok (.istore_n 3, 1) := by decide +kernel
theorem dX4_longest_50 : decode cX4_longest 50 = .ok (.iload_n 1, 1) := by decide +kernel
theorem dX4_longest_51 : decode cX4_longest 51 = .ok (.iload_n 2, 1) := by decide +kernel
theorem dX4_longest_52 : decode cX4_longest 52 = .ok (.invokestatic 262, 3) := by decide +kernel
theorem dX4_longest_55 : decode cX4_longest 55 = .ok (.istore_n 1, 1) := by decide +kernel
theorem dX4_longest_56 : decode cX4_longest 56 = .ok (.iinc 4 1, 3) := by decide +kernel
theorem dX4_longest_59 : decode cX4_longest 59 = .ok (.goto (-50), 3) := by decide +kernel
theorem dX4_longest_62 : decode cX4_longest 62 = .ok (.iload_n 1, 1) := by decide +kernel
theorem dX4_longest_63 : decode cX4_longest 63 = .ok (.ireturn, 1) := by decide +kernel
theorem dX4_emptySongs_0 : decode cX4_emptySongs 0 = .ok (.aload_n 0, 1) := by decide +kernel
theorem dX4_emptySongs_1 : decode cX4_emptySongs 1 = .ok (.getfield 24, 3) := by decide +kernel
theorem dX4_emptySongs_4 : decode cX4_emptySongs 4 = .ok (.getfield 245, 3) := by decide +kernel
theorem dX4_emptySongs_7 : decode cX4_emptySongs 7 = .ok (.istore_n 1, 1) := by decide +kernel
theorem dX4_emptySongs_8 : decode cX4_emptySongs 8 = .ok (.aload_n 0, 1) := by decide +kernel
theorem dX4_emptySongs_9 : decode cX4_emptySongs 9 = .ok (.getfield 24, 3) := by decide +kernel
theorem dX4_emptySongs_12 : decode cX4_emptySongs 12 = .ok (.invokevirtual 265, 3) := by decide +kernel
theorem dX4_emptySongs_15 : decode cX4_emptySongs 15 = .ok (.iload_n 1, 1) := by decide +kernel
theorem dX4_emptySongs_16 : decode cX4_emptySongs 16 = .ok (.ireturn, 1) := by decide +kernel
theorem dX4_goOneTick_0 : decode cX4_goOneTick 0 = .ok (.aload_n 0, 1) := by decide +kernel
theorem dX4_goOneTick_1 : decode cX4_goOneTick 1 = .ok (.dup, 1) := by decide +kernel
theorem dX4_goOneTick_2 : decode cX4_goOneTick 2 = .ok (.getfield 234, 3) := by decide +kernel
theorem dX4_goOneTick_5 : decode cX4_goOneTick 5 = .ok (.iconst 1, 1) := by decide +kernel
theorem dX4_goOneTick_6 : decode cX4_goOneTick 6 = .ok (.iadd, 1) := by decide +kernel
theorem dX4_goOneTick_7 : decode cX4_goOneTick 7 = .ok (.putfield 234, 3) := by decide +kernel
theorem dX4_goOneTick_10 : decode cX4_goOneTick 10 = .ok (.aload_n 0, 1) := by decide +kernel
theorem dX4_goOneTick_11 : decode cX4_goOneTick 11 = .ok (.invokevirtual 297, 3) := by decide +kernel
theorem dX4_goOneTick_14 : decode cX4_goOneTick 14 = .ok (.iconst 0, 1) := by decide +kernel
theorem dX4_goOneTick_15 : decode cX4_goOneTick 15 = .ok (.istore_n 1, 1) := by decide +kernel
theorem dX4_goOneTick_16 : decode cX4_goOneTick 16 = .ok (.iconst 0, 1) := by decide +kernel
theorem dX4_goOneTick_17 : decode cX4_goOneTick 17 = .ok (.istore_n 2, 1) := by decide +kernel
theorem dX4_goOneTick_18 : decode cX4_goOneTick 18 = .ok (.iload_n 2, 1) := by decide +kernel
theorem dX4_goOneTick_19 : decode cX4_goOneTick 19 = .ok (.aload_n 0, 1) := by decide +kernel
theorem dX4_goOneTick_20 : decode cX4_goOneTick 20 = .ok (.getfield 11, 3) := by decide +kernel
theorem dX4_goOneTick_23 : decode cX4_goOneTick 23 = .ok (.arraylength, 1) := by decide +kernel
theorem dX4_goOneTick_24 : decode cX4_goOneTick 24 = .ok (.if_icmp .ge 29, 3) := by decide +kernel
theorem dX4_goOneTick_27 : decode cX4_goOneTick 27 = .ok (.aload_n 0, 1) := by decide +kernel
theorem dX4_goOneTick_28 : decode cX4_goOneTick 28 = .ok (.getfield 11, 3) := by decide +kernel
theorem dX4_goOneTick_31 : decode cX4_goOneTick 31 = .ok (.iload_n 2, 1) := by decide +kernel
theorem dX4_goOneTick_32 : decode cX4_goOneTick 32 = .ok (.aaload, 1) := by decide +kernel
theorem dX4_goOneTick_33 : decode cX4_goOneTick 33 = .ok (.astore_n 3, 1) := by decide +kernel
theorem dX4_goOneTick_34 : decode cX4_goOneTick 34 = .ok (.aload_n 3, 1) := by decide +kernel
theorem dX4_goOneTick_35 : decode cX4_goOneTick 35 = .ok (.ifnull 12, 3) := by decide +kernel
theorem dX4_goOneTick_38 : decode cX4_goOneTick 38 = .ok (.iload_n 1, 1) := by decide +kernel
theorem dX4_goOneTick_39 : decode cX4_goOneTick 39 = .ok (.aload_n 0, 1) := by decide +kernel
theorem dX4_goOneTick_40 : decode cX4_goOneTick 40 = .ok (.iload_n 2, 1) := by decide +kernel
theorem dX4_goOneTick_41 : decode cX4_goOneTick 41 = .ok (.aload_n 3, 1) := by decide +kernel
theorem dX4_goOneTick_42 : decode cX4_goOneTick 42 = .ok (.invokevirtual 300, 3) := by decide +kernel
theorem dX4_goOneTick_45 : decode cX4_goOneTick 45 = .ok (.iadd, 1) := by decide +kernel
theorem dX4_goOneTick_46 : decode cX4_goOneTick 46 = .ok (.istore_n 1, 1) := by decide +kernel
theorem dX4_goOneTick_47 : decode cX4_goOneTick 47 = .ok (.iinc 2 1, 3) := by decide +kernel
theorem dX4_goOneTick_50 : decode cX4_goOneTick 50 = .ok (.goto (-32), 3) := by decide +kernel
theorem dX4_goOneTick_53 : decode cX4_goOneTick 53 = .ok (.iload_n 1, 1) := by decide +kernel
theorem dX4_goOneTick_54 : decode cX4_goOneTick 54 = .ok (.ireturn, 1) := by decide +kernel
theorem dX4_shareBetweenCoupled_0 : decode cX4_shareBetweenCoupled 0 = .ok (.iconst 0, 1) := by decide +kernel
theorem dX4_shareBetweenCoupled_1 : decode cX4_shareBetweenCoupled 1 = .ok (.istore_n 1, 1) := by decide +kernel
theorem dX4_shareBetweenCoupled_2 : decode cX4_shareBetweenCoupled 2 = .ok (.iload_n 1, 1) := by decide +kernel
theorem dX4_shareBetweenCoupled_3 : decode cX4_shareBetweenCoupled 3 = .ok (.aload_n 0, 1) := by decide +kernel
theorem dX4_shareBetweenCoupled_4 : decode cX4_shareBetweenCoupled 4 = .ok (.getfield 11, 3) := by decide +kernel
theorem dX4_shareBetweenCoupled_7 : decode cX4_shareBetweenCoupled 7 = .ok (.arraylength, 1) := by decide +kernel
theorem dX4_shareBetweenCoupled_8 : decode cX4_shareBetweenCoupled 8 = .ok (.if_icmp .ge 54, 3) := by decide +kernel
theorem dX4_shareBetweenCoupled_11 : decode cX4_shareBetweenCoupled 11 = .ok (.iload_n 1, 1) := by decide +kernel
theorem dX4_shareBetweenCoupled_12 : decode cX4_shareBetweenCoupled 12 = .ok (.iconst 1, 1) := by decide +kernel
theorem dX4_shareBetweenCoupled_13 : decode cX4_shareBetweenCoupled 13 = .ok (.iadd, 1) := by decide +kernel
theorem dX4_shareBetweenCoupled_14 : decode cX4_shareBetweenCoupled 14 = .ok (.istore_n 2, 1) := by decide +kernel
theorem dX4_shareBetweenCoupled_15 : decode cX4_shareBetweenCoupled 15 = .ok (.iload_n 2, 1) := by decide +kernel
theorem dX4_shareBetweenCoupled_16 : decode cX4_shareBetweenCoupled 16 = .ok (.aload_n 0, 1) := by decide +kernel
theorem dX4_shareBetweenCoupled_17 : decode cX4_shareBetweenCoupled 17 = .ok (.getfield 11, 3) := by decide +kernel
theorem dX4_shareBetweenCoupled_20 : decode cX4_shareBetweenCoupled 20 = .ok (.arraylength, 1) := by decide +kernel
theorem dX4_shareBetweenCoupled_21 : decode cX4_shareBetweenCoupled 21 = .ok (.if_icmp .ge 35, 3) := by decide +kernel
theorem dX4_shareBetweenCoupled_24 : decode cX4_shareBetweenCoupled 24 = .ok (.aload_n 0, 1) := by decide +kernel
theorem dX4_shareBetweenCoupled_25 : decode cX4_shareBetweenCoupled 25 = .ok (.getfield 81, 3) := by decide +kernel
theorem dX4_shareBetweenCoupled_28 : decode cX4_shareBetweenCoupled 28 = .ok (.iload_n 1, 1) := by decide +kernel
theorem dX4_shareBetweenCoupled_29 : decode cX4_shareBetweenCoupled 29 = .ok (.iload_n 2, 1) := by decide +kernel
theorem dX4_shareBetweenCoupled_30 : decode cX4_shareBetweenCoupled 30 = .ok (.invokestatic 78, 3) := by decide +kernel
theorem dX4_shareBetweenCoupled_33 : decode cX4_shareBetweenCoupled 33 = .ok (.iand, 1) := by decide +kernel
theorem dX4_shareBetweenCoupled_34 : decode cX4_shareBetweenCoupled 34 = .ok (.ifCond .eq 16, 3) := by decide +kernel
theorem dX4_shareBetweenCoupled_37 : decode cX4_shareBetweenCoupled 37 = .ok (.aload_n 0, 1) := by decide +kernel
theorem dX4_shareBetweenCoupled_38 : decode cX4_shareBetweenCoupled 38 = .ok (.iload_n 1, 1) := by decide +kernel
theorem dX4_shareBetweenCoupled_39 : decode cX4_shareBetweenCoupled 39 = .ok (.invokevirtual 51, 3) := by decide +kernel
theorem dX4_shareBetweenCoupled_42 : decode cX4_shareBetweenCoupled 42 = .ok (.aload_n 0, 1) := by decide +kernel
theorem dX4_shareBetweenCoupled_43 : decode cX4_shareBetweenCoupled 43 = .ok (.iload_n 2, 1) := by decide +kernel
theorem dX4_shareBetweenCoupled_44 : decode cX4_shareBetweenCoupled 44 = .ok (.invokevirtual 51, 3) := by decide +kernel
theorem dX4_shareBetweenCoupled_47 : decode cX4_shareBetweenCoupled 47 = .ok (.invokestatic 304, 3) := by decide +kernel
theorem dX4_shareBetweenCoupled_50 : decode cX4_shareBetweenCoupled 50 = .ok (.iinc 2 1, 3) := by decide +kernel
theorem dX4_shareBetweenCoupled_53 : decode cX4_shareBetweenCoupled 53 = .ok (.goto (-38), 3) := by decide +kernel
theorem dX4_shareBetweenCoupled_56 : decode cX4_shareBetweenCoupled 56 = .ok (.iinc 1 1, 3) := by decide +kernel
theorem dX4_shareBetweenCoupled_59 : decode cX4_shareBetweenCoupled 59 = .ok (.goto (-57), 3) := by decide +kernel
theorem dX4_shareBetweenCoupled_62 : decode cX4_shareBetweenCoupled 62 = .ok (.return_, 1) := by decide +kernel
theorem dX4_shareBetween_0 : decode cX4_shareBetween 0 = .ok (.aload_n 0, 1) := by decide +kernel
theorem dX4_shareBetween_1 : decode cX4_shareBetween 1 = .ok (.ifnull 40, 3) := by decide +kernel
theorem dX4_shareBetween_4 : decode cX4_shareBetween 4 = .ok (.aload_n 1, 1) := by decide +kernel
theorem dX4_shareBetween_5 : decode cX4_shareBetween 5 = .ok (.ifnull 36, 3) := by decide +kernel
theorem dX4_shareBetween_8 : decode cX4_shareBetween 8 = .ok (.aload_n 0, 1) := by decide +kernel
theorem dX4_shareBetween_9 : decode cX4_shareBetween 9 = .ok (.getfield 63, 3) := by decide +kernel
theorem dX4_shareBetween_12 : decode cX4_shareBetween 12 = .ok (.aload_n 1, 1) := by decide +kernel
theorem dX4_shareBetween_13 : decode cX4_shareBetween 13 = .ok (.getfield 63, 3) := by decide +kernel
theorem dX4_shareBetween_16 : decode cX4_shareBetween 16 = .ok (.isub, 1) := by decide +kernel
theorem dX4_shareBetween_17 : decode cX4_shareBetween 17 = .ok (.bipush 10, 2) := by decide +kernel
theorem dX4_shareBetween_19 : decode cX4_shareBetween 19 = .ok (.idiv, 1) := by decide +kernel
theorem dX4_shareBetween_20 : decode cX4_shareBetween 20 = .ok (.istore_n 2, 1) := by decide +kernel
theorem dX4_shareBetween_21 : decode cX4_shareBetween 21 = .ok (.aload_n 0, 1) := by decide +kernel
theorem dX4_shareBetween_22 : decode cX4_shareBetween 22 = .ok (.dup, 1) := by decide +kernel
theorem dX4_shareBetween_23 : decode cX4_shareBetween 23 = .ok (.getfield 63, 3) := by decide +kernel
theorem dX4_shareBetween_26 : decode cX4_shareBetween 26 = .ok (.iload_n 2, 1) := by decide +kernel
theorem dX4_shareBetween_27 : decode cX4_shareBetween 27 = .ok (.isub, 1) := by decide +kernel
theorem dX4_shareBetween_28 : decode cX4_shareBetween 28 = .ok (.putfield 63, 3) := by decide +kernel
theorem dX4_shareBetween_31 : decode cX4_shareBetween 31 = .ok (.aload_n 1, 1) := by decide +kernel
theorem dX4_shareBetween_32 : decode cX4_shareBetween 32 = .ok (.dup, 1) := by decide +kernel
theorem dX4_shareBetween_33 : decode cX4_shareBetween 33 = .ok (.getfield 63, 3) := by decide +kernel
theorem dX4_shareBetween_36 : decode cX4_shareBetween 36 = .ok (.iload_n 2, 1) := by decide +kernel
theorem dX4_shareBetween_37 : decode cX4_shareBetween 37 = .ok (.iadd, 1) := by decide +kernel
theorem dX4_shareBetween_38 : decode cX4_shareBetween 38 = .ok (.putfield 63, 3) := by decide +kernel
theorem dX4_shareBetween_41 : decode cX4_shareBetween 41 = .ok (.return_, 1) := by decide +kernel
theorem dX4_goShaft_0 : decode cX4_goShaft 0 = .ok (.aload_n 2, 1) := by decide +kernel
theorem dX4_goShaft_1 : decode cX4_goShaft 1 = .ok (.getfield 72, 3) := by decide +kernel
theorem dX4_goShaft_4 : decode cX4_goShaft 4 = .ok (.ifCond .ne 10, 3) := by decide +kernel
theorem dX4_goShaft_7 : decode cX4_goShaft 7 = .ok (.aload_n 2, 1) := by decide +kernel
theorem dX4_goShaft_8 : decode cX4_goShaft 8 = .ok (.getfield 63, 3) := by decide +kernel
theorem dX4_goShaft_11 : decode cX4_goShaft 11 = .ok (.ifCond .gt 10, 3) := by decide +kernel
theorem dX4_goShaft_14 : decode cX4_goShaft 14 = .ok (.aload_n 2, 1) := by decide +kernel
theorem dX4_goShaft_15 : decode cX4_goShaft 15 = .ok (.iconst 0, 1) := by decide +kernel
theorem dX4_goShaft_16 : decode cX4_goShaft 16 = .ok (.putfield 97, 3) := by decide +kernel
theorem dX4_goShaft_19 : decode cX4_goShaft 19 = .ok (.iconst 0, 1) := by decide +kernel
theorem dX4_goShaft_20 : decode cX4_goShaft 20 = .ok (.ireturn, 1) := by decide +kernel
theorem dX4_goShaft_21 : decode cX4_goShaft 21 = .ok (.aload_n 2, 1) := by decide +kernel
theorem dX4_goShaft_22 : decode cX4_goShaft 22 = .ok (.aload_n 2, 1) := by decide +kernel
theorem dX4_goShaft_23 : decode cX4_goShaft 23 = .ok (.aload_n 0, 1) := by decide +kernel
theorem dX4_goShaft_24 : decode cX4_goShaft 24 = .ok (.iload_n 1, 1) := by decide +kernel
theorem dX4_goShaft_25 : decode cX4_goShaft 25 = .ok (.invokevirtual 103, 3) := by decide +kernel
theorem dX4_goShaft_28 : decode cX4_goShaft 28 = .ok (.invokevirtual 308, 3) := by decide +kernel
theorem dX4_goShaft_31 : decode cX4_goShaft 31 = .ok (.invokevirtual 311, 3) := by decide +kernel
theorem dX4_goShaft_34 : decode cX4_goShaft 34 = .ok (.iconst 0, 1) := by decide +kernel
theorem dX4_goShaft_35 : decode cX4_goShaft 35 = .ok (.istore_n 3, 1) := by decide +kernel
theorem dX4_goShaft_36 : decode cX4_goShaft 36 = .ok (.iconst 0, 1) := by decide +kernel
theorem dX4_goShaft_37 : decode cX4_goShaft 37 = .ok (.istore 4, 2) := by decide +kernel
theorem dX4_goShaft_39 : decode cX4_goShaft 39 = .ok (.iload 4, 2) := by decide +kernel
theorem dX4_goShaft_41 : decode cX4_goShaft 41 = .ok (.aload_n 0, 1) := by decide +kernel
theorem dX4_goShaft_42 : decode cX4_goShaft 42 = .ok (.getfield 17, 3) := by decide +kernel
theorem dX4_goShaft_45 : decode cX4_goShaft 45 = .ok (.arraylength, 1) := by decide +kernel
theorem dX4_goShaft_46 : decode cX4_goShaft 46 = .ok (.if_icmp .ge 44, 3) := by decide +kernel
theorem dX4_goShaft_49 : decode cX4_goShaft 49 = .ok (.aload_n 0, 1) := by decide +kernel
theorem dX4_goShaft_50 : decode cX4_goShaft 50 = .ok (.getfield 17, 3) := by decide +kernel
theorem dX4_goShaft_53 : decode cX4_goShaft 53 = .ok (.iload 4, 2) := by decide +kernel
theorem dX4_goShaft_55 : decode cX4_goShaft 55 = .ok (.aaload, 1) := by decide +kernel
theorem dX4_goShaft_56 : decode cX4_goShaft 56 = .ok (.astore 5, 2) := by decide +kernel
theorem dX4_goShaft_58 : decode cX4_goShaft 58 = .ok (.aload 5, 2) := by decide +kernel
theorem dX4_goShaft_60 : decode cX4_goShaft 60 = .ok (.ifnull 24, 3) := by decide +kernel
theorem dX4_goShaft_63 : decode cX4_goShaft 63 = .ok (.aload 5, 2) := by decide +kernel
theorem dX4_goShaft_65 : decode cX4_goShaft 65 = .ok (.iload_n 1, 1) := by decide +kernel
theorem dX4_goShaft_66 : decode cX4_goShaft 66 = .ok (.invokevirtual 314, 3) := by decide +kernel
theorem dX4_goShaft_69 : decode cX4_goShaft 69 = .ok (.ifCond .eq 15, 3) := by decide +kernel
theorem dX4_goShaft_72 : decode cX4_goShaft 72 = .ok (.iload_n 3, 1) := by decide +kernel
theorem dX4_goShaft_73 : decode cX4_goShaft 73 = .ok (.aload_n 0, 1) := by decide +kernel
theorem dX4_goShaft_74 : decode cX4_goShaft 74 = .ok (.iload 4, 2) := by decide +kernel
theorem dX4_goShaft_76 : decode cX4_goShaft 76 = .ok (.aload 5, 2) := by decide +kernel
theorem dX4_goShaft_78 : decode cX4_goShaft 78 = .ok (.aload_n 2, 1) := by decide +kernel
theorem dX4_goShaft_79 : decode cX4_goShaft 79 = .ok (.invokevirtual 317, 3) := by decide +kernel
theorem dX4_goShaft_82 : decode cX4_goShaft 82 = .ok (.iadd, 1) := by decide +kernel
theorem dX4_goShaft_83 : decode cX4_goShaft 83 = .ok (.istore_n 3, 1) := by decide +kernel
theorem dX4_goShaft_84 : decode cX4_goShaft 84 = .ok (.iinc 4 1, 3) := by decide +kernel
theorem dX4_goShaft_87 : decode cX4_goShaft 87 = .ok (.goto (-48), 3) := by decide +kernel
theorem dX4_goShaft_90 : decode cX4_goShaft 90 = .ok (.iload_n 3, 1) := by decide +kernel
theorem dX4_goShaft_91 : decode cX4_goShaft 91 = .ok (.ireturn, 1) := by decide +kernel
theorem dX4_goBarrel_0 : decode cX4_goBarrel 0 = .ok (.aload_n 2, 1) := by decide +kernel
theorem dX4_goBarrel_1 : decode cX4_goBarrel 1 = .ok (.getfield 216, 3) := by decide +kernel
theorem dX4_goBarrel_4 : decode cX4_goBarrel 4 = .ok (.lstore 4, 2) := by decide +kernel
theorem dX4_goBarrel_6 : decode cX4_goBarrel 6 = .ok (.aload_n 2, 1) := by decide +kernel
theorem dX4_goBarrel_7 : decode cX4_goBarrel 7 = .ok (.aload_n 2, 1) := by decide +kernel
theorem dX4_goBarrel_8 : decode cX4_goBarrel 8 = .ok (.aload_n 3, 1) := by decide +kernel
theorem dX4_goBarrel_9 : decode cX4_goBarrel 9 = .ok (.getfield 93, 3) := by decide +kernel
theorem dX4_goBarrel_12 : decode cX4_goBarrel 12 = .ok (.invokevirtual 321, 3) := by decide +kernel
theorem dX4_goBarrel_15 : decode cX4_goBarrel 15 = .ok (.putfield 216, 3) := by decide +kernel
theorem dX4_goBarrel_18 : decode cX4_goBarrel 18 = .ok (.iconst 0, 1) := by decide +kernel
theorem dX4_goBarrel_19 : decode cX4_goBarrel 19 = .ok (.istore 6, 2) := by decide +kernel
theorem dX4_goBarrel_21 : decode cX4_goBarrel 21 = .ok (.aload_n 2, 1) := by decide +kernel
theorem dX4_goBarrel_22 : decode cX4_goBarrel 22 = .ok (.getfield 216, 3) := by decide +kernel
theorem dX4_goBarrel_25 : decode cX4_goBarrel 25 = .ok (.lload 4, 2) := by decide +kernel
theorem dX4_goBarrel_27 : decode cX4_goBarrel 27 = .ok (.lsub, 1) := by decide +kernel
theorem dX4_goBarrel_28 : decode cX4_goBarrel 28 = .ok (.aload_n 2, 1) := by decide +kernel
theorem dX4_goBarrel_29 : decode cX4_goBarrel 29 = .ok (.getfield 193, 3) := by decide +kernel
theorem dX4_goBarrel_32 : decode cX4_goBarrel 32 = .ok (.i2l, 1) := by decide +kernel
theorem dX4_goBarrel_33 : decode cX4_goBarrel 33 = .ok (.invokestatic 325, 3) := by decide +kernel
theorem dX4_goBarrel_36 : decode cX4_goBarrel 36 = .ok (.lstore 7, 2) := by decide +kernel
theorem dX4_goBarrel_38 : decode cX4_goBarrel 38 = .ok (.lload 7, 2) := by decide +kernel
theorem dX4_goBarrel_40 : decode cX4_goBarrel 40 = .ok (.lconst 0, 1) := by decide +kernel
theorem dX4_goBarrel_41 : decode cX4_goBarrel 41 = .ok (.lcmp, 1) := by decide +kernel
theorem dX4_goBarrel_42 : decode cX4_goBarrel 42 = .ok (.ifCond .le 53, 3) := by decide +kernel
theorem dX4_goBarrel_45 : decode cX4_goBarrel 45 = .ok (.aload_n 2, 1) := by decide +kernel
theorem dX4_goBarrel_46 : decode cX4_goBarrel 46 = .ok (.aload_n 2, 1) := by decide +kernel
theorem dX4_goBarrel_47 : decode cX4_goBarrel 47 = .ok (.getfield 216, 3) := by decide +kernel
theorem dX4_goBarrel_50 : decode cX4_goBarrel 50 = .ok (.lload 7, 2) := by decide +kernel
theorem dX4_goBarrel_52 : decode cX4_goBarrel 52 = .ok (.lsub, 1) := by decide +kernel
theorem dX4_goBarrel_53 : decode cX4_goBarrel 53 = .ok (.lconst 1, 1) := by decide +kernel
theorem dX4_goBarrel_54 : decode cX4_goBarrel 54 = .ok (.ladd, 1) := by decide +kernel
theorem dX4_goBarrel_55 : decode cX4_goBarrel 55 = .ok (.invokevirtual 328, 3) := by decide +kernel
theorem dX4_goBarrel_58 : decode cX4_goBarrel 58 = .ok (.istore 9, 2) := by decide +kernel
theorem dX4_goBarrel_60 : decode cX4_goBarrel 60 = .ok (.aload_n 2, 1) := by decide +kernel
theorem dX4_goBarrel_61 : decode cX4_goBarrel 61 = .ok (.getfield 331, 3) := by decide +kernel
theorem dX4_goBarrel_64 : decode cX4_goBarrel 64 = .ok (.iload 9, 2) := by decide +kernel
theorem dX4_goBarrel_66 : decode cX4_goBarrel 66 = .ok (.invokestatic 165, 3) := by decide +kernel
theorem dX4_goBarrel_69 : decode cX4_goBarrel 69 = .ok (.ifCond .eq 17, 3) := by decide +kernel
theorem dX4_goBarrel_72 : decode cX4_goBarrel 72 = .ok (.iload 6, 2) := by decide +kernel
theorem dX4_goBarrel_74 : decode cX4_goBarrel 74 = .ok (.aload_n 0, 1) := by decide +kernel
theorem dX4_goBarrel_75 : decode cX4_goBarrel 75 = .ok (.iload_n 1, 1) := by decide +kernel
theorem dX4_goBarrel_76 : decode cX4_goBarrel 76 = .ok (.aload_n 2, 1) := by decide +kernel
theorem dX4_goBarrel_77 : decode cX4_goBarrel 77 = .ok (.aload_n 3, 1) := by decide +kernel
theorem dX4_goBarrel_78 : decode cX4_goBarrel 78 = .ok (.iload 9, 2) := by decide +kernel
theorem dX4_goBarrel_80 : decode cX4_goBarrel 80 = .ok (.invokevirtual 334, 3) := by decide +kernel
theorem dX4_goBarrel_83 : decode cX4_goBarrel 83 = .ok (.iadd, 1) := by decide +kernel
theorem dX4_goBarrel_84 : decode cX4_goBarrel 84 = .ok (.istore 6, 2) := by decide +kernel
theorem dX4_goBarrel_86 : decode cX4_goBarrel 86 = .ok (.lload 7, 2) := by decide +kernel
theorem dX4_goBarrel_88 : decode cX4_goBarrel 88 = .ok (.lconst 1, 1) := by decide +kernel
theorem dX4_goBarrel_89 : decode cX4_goBarrel 89 = .ok (.lsub, 1) := by decide +kernel
theorem dX4_goBarrel_90 : decode cX4_goBarrel 90 = .ok (.lstore 7, 2) := by decide +kernel
theorem dX4_goBarrel_92 : decode cX4_goBarrel 92 = .ok (.goto (-54), 3) := by decide +kernel
theorem dX4_goBarrel_95 : decode cX4_goBarrel 95 = .ok (.iload 6, 2) := by decide +kernel
theorem dX4_goBarrel_97 : decode cX4_goBarrel 97 = .ok (.ireturn, 1) := by decide +kernel
theorem dX4_soundPlace_0 : decode cX4_soundPlace 0 = .ok (.iconst 0, 1) := by decide +kernel
theorem dX4_soundPlace_1 : decode cX4_soundPlace 1 = .ok (.istore 5, 2) := by decide +kernel
theorem dX4_soundPlace_3 : decode cX4_soundPlace 3 = .ok (.iconst 0, 1) := by decide +kernel
theorem dX4_soundPlace_4 : decode cX4_soundPlace 4 = .ok (.istore 6, 2) := by decide +kernel
theorem dX4_soundPlace_6 : decode cX4_soundPlace 6 = .ok (.iload 6, 2) := by decide +kernel
theorem dX4_soundPlace_8 : decode cX4_soundPlace 8 = .ok (.bipush 6, 2) := by decide +kernel
theorem dX4_soundPlace_10 : decode cX4_soundPlace 10 = .ok (.if_icmp .ge 50, 3) := by decide +kernel
theorem dX4_soundPlace_13 : decode cX4_soundPlace 13 = .ok (.aload_n 2, 1) := by decide +kernel
theorem dX4_soundPlace_14 : decode cX4_soundPlace 14 = .ok (.iload 4, 2) := by decide +kernel
theorem dX4_soundPlace_16 : decode cX4_soundPlace 16 = .ok (.iload 6, 2) := by decide +kernel
theorem dX4_soundPlace_18 : decode cX4_soundPlace 18 = .ok (.invokevirtual 146, 3) := by decide +kernel
theorem dX4_soundPlace_21 : decode cX4_soundPlace 21 = .ok (.ifCond .eq 33, 3) := by decide +kernel
theorem dX4_soundPlace_24 : decode cX4_soundPlace 24 = .ok (.aload_n 3, 1) := by decide +kernel
theorem dX4_soundPlace_25 : decode cX4_soundPlace 25 = .ok (.invokevirtual 338, 3) := by decide +kernel
theorem dX4_soundPlace_28 : decode cX4_soundPlace 28 = .ok (.aload_n 0, 1) := by decide +kernel
theorem dX4_soundPlace_29 : decode cX4_soundPlace 29 = .ok (.getfield 24, 3) := by decide +kernel
theorem dX4_soundPlace_32 : decode cX4_soundPlace 32 = .ok (.aload_n 0, 1) := by decide +kernel
theorem dX4_soundPlace_33 : decode cX4_soundPlace 33 = .ok (.getfield 234, 3) := by decide +kernel
theorem dX4_soundPlace_36 : decode cX4_soundPlace 36 = .ok (.iload_n 1, 1) := by decide +kernel
theorem dX4_soundPlace_37 : decode cX4_soundPlace 37 = .ok (.iload 6, 2) := by decide +kernel
theorem dX4_soundPlace_39 : decode cX4_soundPlace 39 = .ok (.aload_n 2, 1) := by decide +kernel
theorem dX4_soundPlace_40 : decode cX4_soundPlace 40 = .ok (.getfield 161, 3) := by decide +kernel
theorem dX4_soundPlace_43 : decode cX4_soundPlace 43 = .ok (.iload 6, 2) := by decide +kernel
theorem dX4_soundPlace_45 : decode cX4_soundPlace 45 = .ok (.invokestatic 165, 3) := by decide +kernel
theorem dX4_soundPlace_48 : decode cX4_soundPlace 48 = .ok (.invokevirtual 341, 3) := by decide +kernel
theorem dX4_soundPlace_51 : decode cX4_soundPlace 51 = .ok (.iinc 5 1, 3) := by decide +kernel
theorem dX4_soundPlace_54 : decode cX4_soundPlace 54 = .ok (.iinc 6 1, 3) := by decide +kernel
theorem dX4_soundPlace_57 : decode cX4_soundPlace 57 = .ok (.goto (-51), 3) := by decide +kernel
theorem dX4_soundPlace_60 : decode cX4_soundPlace 60 = .ok (.aload_n 2, 1) := by decide +kernel
theorem dX4_soundPlace_61 : decode cX4_soundPlace 61 = .ok (.dup, 1) := by decide +kernel
theorem dX4_soundPlace_62 : decode cX4_soundPlace 62 = .ok (.getfield 219, 3) := by decide +kernel
theorem dX4_soundPlace_65 : decode cX4_soundPlace 65 = .ok (.iload 5, 2) := by decide +kernel
theorem dX4_soundPlace_67 : decode cX4_soundPlace 67 = .ok (.iadd, 1) := by decide +kernel
theorem dX4_soundPlace_68 : decode cX4_soundPlace 68 = .ok (.putfield 219, 3) := by decide +kernel
theorem dX4_soundPlace_71 : decode cX4_soundPlace 71 = .ok (.iload 5, 2) := by decide +kernel
theorem dX4_soundPlace_73 : decode cX4_soundPlace 73 = .ok (.ireturn, 1) := by decide +kernel
theorem dX4_springAt_0 : decode cX4_springAt 0 = .ok (.iload_n 1, 1) := by decide +kernel
theorem dX4_springAt_1 : decode cX4_springAt 1 = .ok (.ifCond .lt 21, 3) := by decide +kernel
theorem dX4_springAt_4 : decode cX4_springAt 4 = .ok (.iload_n 1, 1) := by decide +kernel
theorem dX4_springAt_5 : decode cX4_springAt 5 = .ok (.aload_n 0, 1) := by decide +kernel
theorem dX4_springAt_6 : decode cX4_springAt 6 = .ok (.getfield 11, 3) := by decide +kernel
theorem dX4_springAt_9 : decode cX4_springAt 9 = .ok (.arraylength, 1) := by decide +kernel
theorem dX4_springAt_10 : decode cX4_springAt 10 = .ok (.if_icmp .ge 12, 3) := by decide +kernel
theorem dX4_springAt_13 : decode cX4_springAt 13 = .ok (.aload_n 0, 1) := by decide +kernel
theorem dX4_springAt_14 : decode cX4_springAt 14 = .ok (.getfield 11, 3) := by decide +kernel
theorem dX4_springAt_17 : decode cX4_springAt 17 = .ok (.iload_n 1, 1) := by decide +kernel
theorem dX4_springAt_18 : decode cX4_springAt 18 = .ok (.aaload, 1) := by decide +kernel
theorem dX4_springAt_19 : decode cX4_springAt 19 = .ok (.goto 4, 3) := by decide +kernel
theorem dX4_springAt_22 : decode cX4_springAt 22 = .ok (.aconst_null, 1) := by decide +kernel
theorem dX4_springAt_23 : decode cX4_springAt 23 = .ok (.areturn, 1) := by decide +kernel
theorem dX4_birdAt_0 : decode cX4_birdAt 0 = .ok (.iload_n 1, 1) := by decide +kernel
theorem dX4_birdAt_1 : decode cX4_birdAt 1 = .ok (.ifCond .lt 21, 3) := by decide +kernel
theorem dX4_birdAt_4 : decode cX4_birdAt 4 = .ok (.iload_n 1, 1) := by decide +kernel
theorem dX4_birdAt_5 : decode cX4_birdAt 5 = .ok (.aload_n 0, 1) := by decide +kernel
theorem dX4_birdAt_6 : decode cX4_birdAt 6 = .ok (.getfield 17, 3) := by decide +kernel
theorem dX4_birdAt_9 : decode cX4_birdAt 9 = .ok (.arraylength, 1) := by decide +kernel
theorem dX4_birdAt_10 : decode cX4_birdAt 10 = .ok (.if_icmp .ge 12, 3) := by decide +kernel
theorem dX4_birdAt_13 : decode cX4_birdAt 13 = .ok (.aload_n 0, 1) := by decide +kernel
theorem dX4_birdAt_14 : decode cX4_birdAt 14 = .ok (.getfield 17, 3) := by decide +kernel
theorem dX4_birdAt_17 : decode cX4_birdAt 17 = .ok (.iload_n 1, 1) := by decide +kernel
theorem dX4_birdAt_18 : decode cX4_birdAt 18 = .ok (.aaload, 1) := by decide +kernel
theorem dX4_birdAt_19 : decode cX4_birdAt 19 = .ok (.goto 4, 3) := by decide +kernel
theorem dX4_birdAt_22 : decode cX4_birdAt 22 = .ok (.aconst_null, 1) := by decide +kernel
theorem dX4_birdAt_23 : decode cX4_birdAt 23 = .ok (.areturn, 1) := by decide +kernel
theorem dX4_birdsDrivenBy_0 : decode cX4_birdsDrivenBy 0 = .ok (.iconst 0, 1) := by decide +kernel
theorem dX4_birdsDrivenBy_1 : decode cX4_birdsDrivenBy 1 = .ok (.istore_n 2, 1) := by decide +kernel
theorem dX4_birdsDrivenBy_2 : decode cX4_birdsDrivenBy 2 = .ok (.aload_n 0, 1) := by decide +kernel
theorem dX4_birdsDrivenBy_3 : decode cX4_birdsDrivenBy 3 = .ok (.getfield 17, 3) := by decide +kernel
theorem dX4_birdsDrivenBy_6 : decode cX4_birdsDrivenBy 6 = .ok (.astore_n 3, 1) := by decide +kernel
theorem dX4_birdsDrivenBy_7 : decode cX4_birdsDrivenBy 7 = .ok (.aload_n 3, 1) := by decide +kernel
theorem dX4_birdsDrivenBy_8 : decode cX4_birdsDrivenBy 8 = .ok (.arraylength, 1) := by decide +kernel
theorem dX4_birdsDrivenBy_9 : decode cX4_birdsDrivenBy 9 = .ok (.istore 4, 2) := by decide +kernel
theorem dX4_birdsDrivenBy_11 : decode cX4_birdsDrivenBy 11 = .ok (.iconst 0, 1) := by decide +kernel
theorem dX4_birdsDrivenBy_12 : decode cX4_birdsDrivenBy 12 = .ok (.istore 5, 2) := by decide +kernel
theorem dX4_birdsDrivenBy_14 : decode cX4_birdsDrivenBy 14 = .ok (.iload 5, 2) := by decide +kernel
theorem dX4_birdsDrivenBy_16 : decode cX4_birdsDrivenBy 16 = .ok (.iload 4, 2) := by decide +kernel
theorem dX4_birdsDrivenBy_18 : decode cX4_birdsDrivenBy 18 = .ok (.if_icmp .ge 32, 3) := by decide +kernel
theorem dX4_birdsDrivenBy_21 : decode cX4_birdsDrivenBy 21 = .ok (.aload_n 3, 1) := by decide +kernel
theorem dX4_birdsDrivenBy_22 : decode cX4_birdsDrivenBy 22 = .ok (.iload 5, 2) := by decide +kernel
theorem dX4_birdsDrivenBy_24 : decode cX4_birdsDrivenBy 24 = .ok (.aaload, 1) := by decide +kernel
theorem dX4_birdsDrivenBy_25 : decode cX4_birdsDrivenBy 25 = .ok (.astore 6, 2) := by decide +kernel
theorem dX4_birdsDrivenBy_27 : decode cX4_birdsDrivenBy 27 = .ok (.aload 6, 2) := by decide +kernel
theorem dX4_birdsDrivenBy_29 : decode cX4_birdsDrivenBy 29 = .ok (.ifnull 15, 3) := by decide +kernel
theorem dX4_birdsDrivenBy_32 : decode cX4_birdsDrivenBy 32 = .ok (.aload 6, 2) := by decide +kernel
theorem dX4_birdsDrivenBy_34 : decode cX4_birdsDrivenBy 34 = .ok (.iload_n 1, 1) := by decide +kernel
theorem dX4_birdsDrivenBy_35 : decode cX4_birdsDrivenBy 35 = .ok (.invokevirtual 314, 3) := by decide +kernel
theorem dX4_birdsDrivenBy_38 : decode cX4_birdsDrivenBy 38 = .ok (.ifCond .eq 6, 3) := by decide +kernel
theorem dX4_birdsDrivenBy_41 : decode cX4_birdsDrivenBy 41 = .ok (.iinc 2 1, 3) := by decide +kernel
theorem dX4_birdsDrivenBy_44 : decode cX4_birdsDrivenBy 44 = .ok (.iinc 5 1, 3) := by decide +kernel
theorem dX4_birdsDrivenBy_47 : decode cX4_birdsDrivenBy 47 = .ok (.goto (-33), 3) := by decide +kernel
theorem dX4_birdsDrivenBy_50 : decode cX4_birdsDrivenBy 50 = .ok (.iload_n 2, 1) := by decide +kernel
theorem dX4_birdsDrivenBy_51 : decode cX4_birdsDrivenBy 51 = .ok (.ireturn, 1) := by decide +kernel
theorem dX4_loadOn_0 : decode cX4_loadOn 0 = .ok (.bipush 10, 2) := by decide +kernel
theorem dX4_loadOn_2 : decode cX4_loadOn 2 = .ok (.istore_n 2, 1) := by decide +kernel
theorem dX4_loadOn_3 : decode cX4_loadOn 3 = .ok (.aload_n 0, 1) := by decide +kernel
theorem dX4_loadOn_4 : decode cX4_loadOn 4 = .ok (.getfield 17, 3) := by decide +kernel
theorem dX4_loadOn_7 : decode cX4_loadOn 7 = .ok (.astore_n 3, 1) := by decide +kernel
theorem dX4_loadOn_8 : decode cX4_loadOn 8 = .ok (.aload_n 3, 1) := by decide +kernel
theorem dX4_loadOn_9 : decode cX4_loadOn 9 = .ok (.arraylength, 1) := by decide +kernel
theorem dX4_loadOn_10 : decode cX4_loadOn 10 = .ok (.istore 4, 2) := by decide +kernel
theorem dX4_loadOn_12 : decode cX4_loadOn 12 = .ok (.iconst 0, 1) := by decide +kernel
theorem dX4_loadOn_13 : decode cX4_loadOn 13 = .ok (.istore 5, 2) := by decide +kernel
theorem dX4_loadOn_15 : decode cX4_loadOn 15 = .ok (.iload 5, 2) := by decide +kernel
theorem dX4_loadOn_17 : decode cX4_loadOn 17 = .ok (.iload 4, 2) := by decide +kernel
theorem dX4_loadOn_19 : decode cX4_loadOn 19 = .ok (.if_icmp .ge 37, 3) := by decide +kernel
theorem dX4_loadOn_22 : decode cX4_loadOn 22 = .ok (.aload_n 3, 1) := by decide +kernel
theorem dX4_loadOn_23 : decode cX4_loadOn 23 = .ok (.iload 5, 2) := by decide +kernel
theorem dX4_loadOn_25 : decode cX4_loadOn 25 = .ok (.aaload, 1) := by decide +kernel
theorem dX4_loadOn_26 : decode cX4_loadOn 26 = .ok (.astore 6, 2) := by decide +kernel
theorem dX4_loadOn_28 : decode cX4_loadOn 28 = .ok (.aload 6, 2) := by decide +kernel
theorem dX4_loadOn_30 : decode cX4_loadOn 30 = .ok (.ifnull 20, 3) := by decide +kernel
theorem dX4_loadOn_33 : decode cX4_loadOn 33 = .ok (.aload 6, 2) := by decide +kernel
theorem dX4_loadOn_35 : decode cX4_loadOn 35 = .ok (.iload_n 1, 1) := by decide +kernel
theorem dX4_loadOn_36 : decode cX4_loadOn 36 = .ok (.invokevirtual 314, 3) := by decide +kernel
theorem dX4_loadOn_39 : decode cX4_loadOn 39 = .ok (.ifCond .eq 11, 3) := by decide +kernel
theorem dX4_loadOn_42 : decode cX4_loadOn 42 = .ok (.iload_n 2, 1) := by decide +kernel
theorem dX4_loadOn_43 : decode cX4_loadOn 43 = .ok (.aload 6, 2) := by decide +kernel
theorem dX4_loadOn_45 : decode cX4_loadOn 45 = .ok (.invokevirtual 345, 3) := by decide +kernel
theorem dX4_loadOn_48 : decode cX4_loadOn 48 = .ok (.iadd, 1) := by decide +kernel
theorem dX4_loadOn_49 : decode cX4_loadOn 49 = .ok (.istore_n 2, 1) := by decide +kernel
theorem dX4_loadOn_50 : decode cX4_loadOn 50 = .ok (.iinc 5 1, 3) := by decide +kernel
theorem dX4_loadOn_53 : decode cX4_loadOn 53 = .ok (.goto (-38), 3) := by decide +kernel
theorem dX4_loadOn_56 : decode cX4_loadOn 56 = .ok (.iload_n 2, 1) := by decide +kernel
theorem dX4_loadOn_57 : decode cX4_loadOn 57 = .ok (.ireturn, 1) := by decide +kernel
theorem dX4_heldByAll_0 : decode cX4_heldByAll 0 = .ok (.iconst 0, 1) := by decide +kernel
theorem dX4_heldByAll_1 : decode cX4_heldByAll 1 = .ok (.istore_n 1, 1) := by decide +kernel
theorem dX4_heldByAll_2 : decode cX4_heldByAll 2 = .ok (.aload_n 0, 1) := by decide +kernel
theorem dX4_heldByAll_3 : decode cX4_heldByAll 3 = .ok (.getfield 11, 3) := by decide +kernel
theorem dX4_heldByAll_6 : decode cX4_heldByAll 6 = .ok (.astore_n 2, 1) := by decide +kernel
theorem dX4_heldByAll_7 : decode cX4_heldByAll 7 = .ok (.aload_n 2, 1) := by decide +kernel
theorem dX4_heldByAll_8 : decode cX4_heldByAll 8 = .ok (.arraylength, 1) := by decide +kernel
theorem dX4_heldByAll_9 : decode cX4_heldByAll 9 = .ok (.istore_n 3, 1) := by decide +kernel
theorem dX4_heldByAll_10 : decode cX4_heldByAll 10 = .ok (.iconst 0, 1) := by decide +kernel
theorem dX4_heldByAll_11 : decode cX4_heldByAll 11 = .ok (.istore 4, 2) := by decide +kernel
theorem dX4_heldByAll_13 : decode cX4_heldByAll 13 = .ok (.iload 4, 2) := by decide +kernel
theorem dX4_heldByAll_15 : decode cX4_heldByAll 15 = .ok (.iload_n 3, 1) := by decide +kernel
theorem dX4_heldByAll_16 : decode cX4_heldByAll 16 = .ok (.if_icmp .ge 28, 3) := by decide +kernel
theorem dX4_heldByAll_19 : decode cX4_heldByAll 19 = .ok (.aload_n 2, 1) := by decide +kernel
theorem dX4_heldByAll_20 : decode cX4_heldByAll 20 = .ok (.iload 4, 2) := by decide +kernel
theorem dX4_heldByAll_22 : decode cX4_heldByAll 22 = .ok (.aaload, 1) := by decide +kernel
theorem dX4_heldByAll_23 : decode cX4_heldByAll 23 = .ok (.astore 5, 2) := by decide +kernel
theorem dX4_heldByAll_25 : decode cX4_heldByAll 25 = .ok (.aload 5, 2) := by decide +kernel
theorem dX4_heldByAll_27 : decode cX4_heldByAll 27 = .ok (.ifnull 11, 3) := by decide +kernel
theorem dX4_heldByAll_30 : decode cX4_heldByAll 30 = .ok (.iload_n 1, 1) := by decide +kernel
theorem dX4_heldByAll_31 : decode cX4_heldByAll 31 = .ok (.aload 5, 2) := by decide +kernel
theorem dX4_heldByAll_33 : decode cX4_heldByAll 33 = .ok (.getfield 63, 3) := by decide +kernel
theorem dX4_heldByAll_36 : decode cX4_heldByAll 36 = .ok (.iadd, 1) := by decide +kernel
theorem dX4_heldByAll_37 : decode cX4_heldByAll 37 = .ok (.istore_n 1, 1) := by decide +kernel
theorem dX4_heldByAll_38 : decode cX4_heldByAll 38 = .ok (.iinc 4 1, 3) := by decide +kernel
theorem dX4_heldByAll_41 : decode cX4_heldByAll 41 = .ok (.goto (-28), 3) := by decide +kernel
theorem dX4_heldByAll_44 : decode cX4_heldByAll 44 = .ok (.iload_n 1, 1) := by decide +kernel
theorem dX4_heldByAll_45 : decode cX4_heldByAll 45 = .ok (.ireturn, 1) := by decide +kernel
theorem dX4_pairBit_0 : decode cX4_pairBit 0 = .ok (.iconst 1, 1) := by decide +kernel
theorem dX4_pairBit_1 : decode cX4_pairBit 1 = .ok (.iload_n 0, 1) := by decide +kernel
theorem dX4_pairBit_2 : decode cX4_pairBit 2 = .ok (.iload_n 1, 1) := by decide +kernel
theorem dX4_pairBit_3 : decode cX4_pairBit 3 = .ok (.invokestatic 66, 3) := by decide +kernel
theorem dX4_pairBit_6 : decode cX4_pairBit 6 = .ok (.iconst 4, 1) := by decide +kernel
theorem dX4_pairBit_7 : decode cX4_pairBit 7 = .ok (.imul, 1) := by decide +kernel
theorem dX4_pairBit_8 : decode cX4_pairBit 8 = .ok (.iload_n 0, 1) := by decide +kernel
theorem dX4_pairBit_9 : decode cX4_pairBit 9 = .ok (.iload_n 1, 1) := by decide +kernel
theorem dX4_pairBit_10 : decode cX4_pairBit 10 = .ok (.invokestatic 262, 3) := by decide +kernel
theorem dX4_pairBit_13 : decode cX4_pairBit 13 = .ok (.iadd, 1) := by decide +kernel
theorem dX4_pairBit_14 : decode cX4_pairBit 14 = .ok (.ishl, 1) := by decide +kernel
theorem dX4_pairBit_15 : decode cX4_pairBit 15 = .ok (.ireturn, 1) := by decide +kernel
theorem dX4_isIn_0 : decode cX4_isIn 0 = .ok (.iload_n 0, 1) := by decide +kernel
theorem dX4_isIn_1 : decode cX4_isIn 1 = .ok (.iload_n 1, 1) := by decide +kernel
theorem dX4_isIn_2 : decode cX4_isIn 2 = .ok (.if_icmp .lt 12, 3) := by decide +kernel
theorem dX4_isIn_5 : decode cX4_isIn 5 = .ok (.iload_n 0, 1) := by decide +kernel
theorem dX4_isIn_6 : decode cX4_isIn 6 = .ok (.iload_n 2, 1) := by decide +kernel
theorem dX4_isIn_7 : decode cX4_isIn 7 = .ok (.if_icmp .gt 7, 3) := by decide +kernel
theorem dX4_isIn_10 : decode cX4_isIn 10 = .ok (.iconst 1, 1) := by decide +kernel
theorem dX4_isIn_11 : decode cX4_isIn 11 = .ok (.goto 4, 3) := by decide +kernel
theorem dX4_isIn_14 : decode cX4_isIn 14 = .ok (.iconst 0, 1) := by decide +kernel
theorem dX4_isIn_15 : decode cX4_isIn 15 = .ok (.ireturn, 1) := by decide +kernel
theorem dX4_remainder_0 : decode cX4_remainder 0 = .ok (.iload_n 1, 1) := by decide +kernel
theorem dX4_remainder_1 : decode cX4_remainder 1 = .ok (.ifCond .le 9, 3) := by decide +kernel
theorem dX4_remainder_4 : decode cX4_remainder 4 = .ok (.iload_n 0, 1) := by decide +kernel
theorem dX4_remainder_5 : decode cX4_remainder 5 = .ok (.iload_n 1, 1) := by decide +kernel
theorem dX4_remainder_6 : decode cX4_remainder 6 = .ok (.irem, 1) := by decide +kernel
theorem dX4_remainder_7 : decode cX4_remainder 7 = .ok (.goto 4, 3) := by decide +kernel
theorem dX4_remainder_10 : decode cX4_remainder 10 = .ok (.iconst 0, 1) := by decide +kernel
theorem dX4_remainder_11 : decode cX4_remainder 11 = .ok (.ireturn, 1) := by decide +kernel
theorem dX4_at_0 : decode cX4_at 0 = .ok (.iload_n 1, 1) := by decide +kernel
theorem dX4_at_1 : decode cX4_at 1 = .ok (.ifCond .lt 15, 3) := by decide +kernel
theorem dX4_at_4 : decode cX4_at 4 = .ok (.iload_n 1, 1) := by decide +kernel
theorem dX4_at_5 : decode cX4_at 5 = .ok (.aload_n 0, 1) := by decide +kernel
theorem dX4_at_6 : decode cX4_at 6 = .ok (.arraylength, 1) := by decide +kernel
theorem dX4_at_7 : decode cX4_at 7 = .ok (.if_icmp .ge 9, 3) := by decide +kernel
theorem dX4_at_10 : decode cX4_at 10 = .ok (.aload_n 0, 1) := by decide +kernel
theorem dX4_at_11 : decode cX4_at 11 = .ok (.iload_n 1, 1) := by decide +kernel
theorem dX4_at_12 : decode cX4_at 12 = .ok (.iaload, 1) := by decide +kernel
theorem dX4_at_13 : decode cX4_at 13 = .ok (.goto 4, 3) := by decide +kernel
theorem dX4_at_16 : decode cX4_at 16 = .ok (.iconst 0, 1) := by decide +kernel
theorem dX4_at_17 : decode cX4_at 17 = .ok (.ireturn, 1) := by decide +kernel
theorem dX4_put_0 : decode cX4_put 0 = .ok (.iload_n 1, 1) := by decide +kernel
theorem dX4_put_1 : decode cX4_put 1 = .ok (.ifCond .lt 13, 3) := by decide +kernel
theorem dX4_put_4 : decode cX4_put 4 = .ok (.iload_n 1, 1) := by decide +kernel
theorem dX4_put_5 : decode cX4_put 5 = .ok (.aload_n 0, 1) := by decide +kernel
theorem dX4_put_6 : decode cX4_put 6 = .ok (.arraylength, 1) := by decide +kernel
theorem dX4_put_7 : decode cX4_put 7 = .ok (.if_icmp .ge 7, 3) := by decide +kernel
theorem dX4_put_10 : decode cX4_put 10 = .ok (.aload_n 0, 1) := by decide +kernel
theorem dX4_put_11 : decode cX4_put 11 = .ok (.iload_n 1, 1) := by decide +kernel
theorem dX4_put_12 : decode cX4_put 12 = .ok (.iload_n 2, 1) := by decide +kernel
theorem dX4_put_13 : decode cX4_put 13 = .ok (.iastore, 1) := by decide +kernel
theorem dX4_put_14 : decode cX4_put 14 = .ok (.return_, 1) := by decide +kernel
end
section
theorem dX5_init_0 : decode cX5_init 0 = .ok (.aload_n 0, 1) := by decide +kernel
theorem dX5_init_1 : decode cX5_init 1 = .ok (.invokespecial 1, 3) := by decide +kernel
theorem dX5_init_4 : decode cX5_init 4 = .ok (.aload_n 0, 1) := by decide +kernel
theorem dX5_init_5 : decode cX5_init 5 = .ok (.iconst 1, 1) := by decide +kernel
theorem dX5_init_6 : decode cX5_init 6 = .ok (.putfield 7, 3) := by decide +kernel
theorem dX5_init_9 : decode cX5_init 9 = .ok (.aload_n 0, 1) := by decide +kernel
theorem dX5_init_10 : decode cX5_init 10 = .ok (.iconst 0, 1) := by decide +kernel
theorem dX5_init_11 : decode cX5_init 11 = .ok (.anewarray 13, 3) := by decide +kernel
theorem dX5_init_14 : decode cX5_init 14 = .ok (.putfield 15, 3) := by decide +kernel
theorem dX5_init_17 : decode cX5_init 17 = .ok (.aload_n 0, 1) := by decide +kernel
theorem dX5_init_18 : decode cX5_init 18 = .ok (.iconst 3, 1) := by decide +kernel
theorem dX5_init_19 : decode cX5_init 19 = .ok (.iconst 0, 1) := by decide +kernel
theorem dX5_init_20 : decode cX5_init 20 = .ok (.multianewarray 19 2, 4) := by decide +kernel
theorem dX5_init_24 : decode cX5_init 24 = .ok (.putfield 21, 3) := by decide +kernel
theorem dX5_init_27 : decode cX5_init 27 = .ok (.aload_n 0, 1) := by decide +kernel
theorem dX5_init_28 : decode cX5_init 28 = .ok (.bipush 6, 2) := by decide +kernel
theorem dX5_init_30 : decode cX5_init 30 = .ok (.newarray .int, 2) := by decide +kernel
theorem dX5_init_32 : decode cX5_init 32 = .ok (.dup, 1) := by decide +kernel
theorem dX5_init_33 : decode cX5_init 33 = .ok (.iconst 0, 1) := by decide +kernel
theorem dX5_init_34 : decode cX5_init 34 = .ok (.bipush 60, 2) := by decide +kernel
theorem dX5_init_36 : decode cX5_init 36 = .ok (.iastore, 1) := by decide +kernel
theorem dX5_init_37 : decode cX5_init 37 = .ok (.dup, 1) := by decide +kernel
theorem dX5_init_38 : decode cX5_init 38 = .ok (.iconst 1, 1) := by decide +kernel
theorem dX5_init_39 : decode cX5_init 39 = .ok (.bipush 62, 2) := by decide +kernel
theorem dX5_init_41 : decode cX5_init 41 = .ok (.iastore, 1) := by decide +kernel
theorem dX5_init_42 : decode cX5_init 42 = .ok (.dup, 1) := by decide +kernel
theorem dX5_init_43 : decode cX5_init 43 = .ok (.iconst 2, 1) := by decide +kernel
theorem dX5_init_44 : decode cX5_init 44 = .ok (.bipush 64, 2) := by decide +kernel
theorem dX5_init_46 : decode cX5_init 46 = .ok (.iastore, 1) := by decide +kernel
theorem dX5_init_47 : decode cX5_init 47 = .ok (.dup, 1) := by decide +kernel
theorem dX5_init_48 : decode cX5_init 48 = .ok (.iconst 3, 1) := by decide +kernel
theorem dX5_init_49 : decode cX5_init 49 = .ok (.bipush 66, 2) := by decide +kernel
theorem dX5_init_51 : decode cX5_init 51 = .ok (.iastore, 1) := by decide +kernel
theorem dX5_init_52 : decode cX5_init 52 = .ok (.dup, 1) := by decide +kernel
theorem dX5_init_53 : decode cX5_init 53 = .ok (.iconst 4, 1) := by decide +kernel
theorem dX5_init_54 : decode cX5_init 54 = .ok (.bipush 68, 2) := by decide +kernel
theorem dX5_init_56 : decode cX5_init 56 = .ok (.iastore, 1) := by decide +kernel
theorem dX5_init_57 : decode cX5_init 57 = .ok (.dup, 1) := by decide +kernel
theorem dX5_init_58 : decode cX5_init 58 = .ok (.iconst 5, 1) := by decide +kernel
theorem dX5_init_59 : decode cX5_init 59 = .ok (.bipush 70, 2) := by decide +kernel
theorem dX5_init_61 : decode cX5_init 61 = .ok (.iastore, 1) := by decide +kernel
theorem dX5_init_62 : decode cX5_init 62 = .ok (.putfield 24, 3) := by decide +kernel
theorem dX5_init_65 : decode cX5_init 65 = .ok (.return_, 1) := by decide +kernel
theorem dX5_with_0 : decode cX5_with 0 = .ok (.aload_n 0, 1) := by decide +kernel
theorem dX5_with_1 : decode cX5_with 1 = .ok (.arraylength, 1) := by decide +kernel
theorem dX5_with_2 : decode cX5_with 2 = .ok (.iconst 1, 1) := by decide +kernel
theorem dX5_with_3 : decode cX5_with 3 = .ok (.iadd, 1) := by decide +kernel
theorem dX5_with_4 : decode cX5_with 4 = .ok (.anewarray 13, 3) := by decide +kernel
theorem dX5_with_7 : decode cX5_with 7 = .ok (.astore_n 2, 1) := by decide +kernel
theorem dX5_with_8 : decode cX5_with 8 = .ok (.iconst 0, 1) := by decide +kernel
theorem dX5_with_9 : decode cX5_with 9 = .ok (.istore_n 3, 1) := by decide +kernel
theorem dX5_with_10 : decode cX5_with 10 = .ok (.iload_n 3, 1) := by decide +kernel
theorem dX5_with_11 : decode cX5_with 11 = .ok (.aload_n 0, 1) := by decide +kernel
theorem dX5_with_12 : decode cX5_with 12 = .ok (.arraylength, 1) := by decide +kernel
theorem dX5_with_13 : decode cX5_with 13 = .ok (.if_icmp .ge 15, 3) := by decide +kernel
theorem dX5_with_16 : decode cX5_with 16 = .ok (.aload_n 2, 1) := by decide +kernel
theorem dX5_with_17 : decode cX5_with 17 = .ok (.iload_n 3, 1) := by decide +kernel
theorem dX5_with_18 : decode cX5_with 18 = .ok (.aload_n 0, 1) := by decide +kernel
theorem dX5_with_19 : decode cX5_with 19 = .ok (.iload_n 3, 1) := by decide +kernel
theorem dX5_with_20 : decode cX5_with 20 = .ok (.aaload, 1) := by decide +kernel
theorem dX5_with_21 : decode cX5_with 21 = .ok (.aastore, 1) := by decide +kernel
theorem dX5_with_22 : decode cX5_with 22 = .ok (.iinc 3 1, 3) := by decide +kernel
theorem dX5_with_25 : decode cX5_with 25 = .ok (.goto (-15), 3) := by decide +kernel
theorem dX5_with_28 : decode cX5_with 28 = .ok (.aload_n 2, 1) := by decide +kernel
theorem dX5_with_29 : decode cX5_with 29 = .ok (.aload_n 0, 1) := by decide +kernel
theorem dX5_with_30 : decode cX5_with 30 = .ok (.arraylength, 1) := by decide +kernel
theorem dX5_with_31 : decode cX5_with 31 = .ok (.aload_n 1, 1) := by decide +kernel
theorem dX5_with_32 : decode cX5_with 32 = .ok (.aastore, 1) := by decide +kernel
theorem dX5_with_33 : decode cX5_with 33 = .ok (.aload_n 2, 1) := by decide +kernel
theorem dX5_with_34 : decode cX5_with 34 = .ok (.areturn, 1) := by decide +kernel
theorem dX6_init_0 : decode cX6_init 0 = .ok (.aload_n 0, 1) := by decide +kernel
theorem dX6_init_1 : decode cX6_init 1 = .ok (.invokespecial 1, 3) := by decide +kernel
theorem dX6_init_4 : decode cX6_init 4 = .ok (.aload_n 0, 1) := by decide +kernel
theorem dX6_init_5 : decode cX6_init 5 = .ok (.iconst 0, 1) := by decide +kernel
theorem dX6_init_6 : decode cX6_init 6 = .ok (.anewarray 7, 3) := by decide +kernel
theorem dX6_init_9 : decode cX6_init 9 = .ok (.putfield 9, 3) := by decide +kernel
theorem dX6_init_12 : decode cX6_init 12 = .ok (.aload_n 0, 1) := by decide +kernel
theorem dX6_init_13 : decode cX6_init 13 = .ok (.iconst 4, 1) := by decide +kernel
theorem dX6_init_14 : decode cX6_init 14 = .ok (.iconst 4, 1) := by decide +kernel
theorem dX6_init_15 : decode cX6_init 15 = .ok (.multianewarray 15 2, 4) := by decide +kernel
theorem dX6_init_19 : decode cX6_init 19 = .ok (.putfield 17, 3) := by decide +kernel
theorem dX6_init_22 : decode cX6_init 22 = .ok (.aload_n 0, 1) := by decide +kernel
theorem dX6_init_23 : decode cX6_init 23 = .ok (.iconst 0, 1) := by decide +kernel
theorem dX6_init_24 : decode cX6_init 24 = .ok (.anewarray 20, 3) := by decide +kernel
theorem dX6_init_27 : decode cX6_init 27 = .ok (.putfield 22, 3) := by decide +kernel
theorem dX6_init_30 : decode cX6_init 30 = .ok (.aload_n 0, 1) := by decide +kernel
theorem dX6_init_31 : decode cX6_init 31 = .ok (.iconst 0, 1) := by decide +kernel
theorem dX6_init_32 : decode cX6_init 32 = .ok (.anewarray 7, 3) := by decide +kernel
theorem dX6_init_35 : decode cX6_init 35 = .ok (.putfield 26, 3) := by decide +kernel
theorem dX6_init_38 : decode cX6_init 38 = .ok (.return_, 1) := by decide +kernel
theorem dJ6_bitCount_0f7a4_0 : decode cJ6_bitCount_0f7a4 0 = .ok (.iload_n 0, 1) := by decide +kernel
theorem dJ6_bitCount_0f7a4_1 : decode cJ6_bitCount_0f7a4 1 = .ok (.iload_n 0, 1) := by decide +kernel
theorem dJ6_bitCount_0f7a4_2 : decode cJ6_bitCount_0f7a4 2 = .ok (.iconst 1, 1) := by decide +kernel
theorem dJ6_bitCount_0f7a4_3 : decode cJ6_bitCount_0f7a4 3 = .ok (.iushr, 1) := by decide +kernel
theorem dJ6_bitCount_0f7a4_4 : decode cJ6_bitCount_0f7a4 4 = .ok (.ldc_w 265, 3) := by decide +kernel
theorem dJ6_bitCount_0f7a4_7 : decode cJ6_bitCount_0f7a4 7 = .ok (.iand, 1) := by decide +kernel
theorem dJ6_bitCount_0f7a4_8 : decode cJ6_bitCount_0f7a4 8 = .ok (.isub, 1) := by decide +kernel
theorem dJ6_bitCount_0f7a4_9 : decode cJ6_bitCount_0f7a4 9 = .ok (.istore_n 0, 1) := by decide +kernel
theorem dJ6_bitCount_0f7a4_10 : decode cJ6_bitCount_0f7a4 10 = .ok (.iload_n 0, 1) := by decide +kernel
theorem dJ6_bitCount_0f7a4_11 : decode cJ6_bitCount_0f7a4 11 = .ok (.ldc_w 266, 3) := by decide +kernel
theorem dJ6_bitCount_0f7a4_14 : decode cJ6_bitCount_0f7a4 14 = .ok (.iand, 1) := by decide +kernel
theorem dJ6_bitCount_0f7a4_15 : decode cJ6_bitCount_0f7a4 15 = .ok (.iload_n 0, 1) := by decide +kernel
theorem dJ6_bitCount_0f7a4_16 : decode cJ6_bitCount_0f7a4 16 = .ok (.iconst 2, 1) := by decide +kernel
theorem dJ6_bitCount_0f7a4_17 : decode cJ6_bitCount_0f7a4 17 = .ok (.iushr, 1) := by decide +kernel
theorem dJ6_bitCount_0f7a4_18 : decode cJ6_bitCount_0f7a4 18 = .ok (.ldc_w 266, 3) := by decide +kernel
theorem dJ6_bitCount_0f7a4_21 : decode cJ6_bitCount_0f7a4 21 = .ok (.iand, 1) := by decide +kernel
theorem dJ6_bitCount_0f7a4_22 : decode cJ6_bitCount_0f7a4 22 = .ok (.iadd, 1) := by decide +kernel
theorem dJ6_bitCount_0f7a4_23 : decode cJ6_bitCount_0f7a4 23 = .ok (.istore_n 0, 1) := by decide +kernel
theorem dJ6_bitCount_0f7a4_24 : decode cJ6_bitCount_0f7a4 24 = .ok (.iload_n 0, 1) := by decide +kernel
theorem dJ6_bitCount_0f7a4_25 : decode cJ6_bitCount_0f7a4 25 = .ok (.iload_n 0, 1) := by decide +kernel
theorem dJ6_bitCount_0f7a4_26 : decode cJ6_bitCount_0f7a4 26 = .ok (.iconst 4, 1) := by decide +kernel
theorem dJ6_bitCount_0f7a4_27 : decode cJ6_bitCount_0f7a4 27 = .ok (.iushr, 1) := by decide +kernel
theorem dJ6_bitCount_0f7a4_28 : decode cJ6_bitCount_0f7a4 28 = .ok (.iadd, 1) := by decide +kernel
theorem dJ6_bitCount_0f7a4_29 : decode cJ6_bitCount_0f7a4 29 = .ok (.ldc_w 267, 3) := by decide +kernel
theorem dJ6_bitCount_0f7a4_32 : decode cJ6_bitCount_0f7a4 32 = .ok (.iand, 1) := by decide +kernel
theorem dJ6_bitCount_0f7a4_33 : decode cJ6_bitCount_0f7a4 33 = .ok (.istore_n 0, 1) := by decide +kernel
theorem dJ6_bitCount_0f7a4_34 : decode cJ6_bitCount_0f7a4 34 = .ok (.iload_n 0, 1) := by decide +kernel
theorem dJ6_bitCount_0f7a4_35 : decode cJ6_bitCount_0f7a4 35 = .ok (.iload_n 0, 1) := by decide +kernel
theorem dJ6_bitCount_0f7a4_36 : decode cJ6_bitCount_0f7a4 36 = .ok (.bipush 8, 2) := by decide +kernel
theorem dJ6_bitCount_0f7a4_38 : decode cJ6_bitCount_0f7a4 38 = .ok (.iushr, 1) := by decide +kernel
theorem dJ6_bitCount_0f7a4_39 : decode cJ6_bitCount_0f7a4 39 = .ok (.iadd, 1) := by decide +kernel
theorem dJ6_bitCount_0f7a4_40 : decode cJ6_bitCount_0f7a4 40 = .ok (.istore_n 0, 1) := by decide +kernel
theorem dJ6_bitCount_0f7a4_41 : decode cJ6_bitCount_0f7a4 41 = .ok (.iload_n 0, 1) := by decide +kernel
theorem dJ6_bitCount_0f7a4_42 : decode cJ6_bitCount_0f7a4 42 = .ok (.iload_n 0, 1) := by decide +kernel
theorem dJ6_bitCount_0f7a4_43 : decode cJ6_bitCount_0f7a4 43 = .ok (.bipush 16, 2) := by decide +kernel
theorem dJ6_bitCount_0f7a4_45 : decode cJ6_bitCount_0f7a4 45 = .ok (.iushr, 1) := by decide +kernel
theorem dJ6_bitCount_0f7a4_46 : decode cJ6_bitCount_0f7a4 46 = .ok (.iadd, 1) := by decide +kernel
theorem dJ6_bitCount_0f7a4_47 : decode cJ6_bitCount_0f7a4 47 = .ok (.istore_n 0, 1) := by decide +kernel
theorem dJ6_bitCount_0f7a4_48 : decode cJ6_bitCount_0f7a4 48 = .ok (.iload_n 0, 1) := by decide +kernel
theorem dJ6_bitCount_0f7a4_49 : decode cJ6_bitCount_0f7a4 49 = .ok (.bipush 63, 2) := by decide +kernel
theorem dJ6_bitCount_0f7a4_51 : decode cJ6_bitCount_0f7a4 51 = .ok (.iand, 1) := by decide +kernel
theorem dJ6_bitCount_0f7a4_52 : decode cJ6_bitCount_0f7a4 52 = .ok (.ireturn, 1) := by decide +kernel
theorem dJ13_bitCount_95d88_0 : decode cJ13_bitCount_95d88 0 = .ok (.lload_n 0, 1) := by decide +kernel
theorem dJ13_bitCount_95d88_1 : decode cJ13_bitCount_95d88 1 = .ok (.lload_n 0, 1) := by decide +kernel
theorem dJ13_bitCount_95d88_2 : decode cJ13_bitCount_95d88 2 = .ok (.iconst 1, 1) := by decide +kernel
theorem dJ13_bitCount_95d88_3 : decode cJ13_bitCount_95d88 3 = .ok (.lushr, 1) := by decide +kernel
theorem dJ13_bitCount_95d88_4 : decode cJ13_bitCount_95d88 4 = .ok (.ldc2_w 314, 3) := by decide +kernel
theorem dJ13_bitCount_95d88_7 : decode cJ13_bitCount_95d88 7 = .ok (.land, 1) := by decide +kernel
theorem dJ13_bitCount_95d88_8 : decode cJ13_bitCount_95d88 8 = .ok (.lsub, 1) := by decide +kernel
theorem dJ13_bitCount_95d88_9 : decode cJ13_bitCount_95d88 9 = .ok (.lstore_n 0, 1) := by decide +kernel
theorem dJ13_bitCount_95d88_10 : decode cJ13_bitCount_95d88 10 = .ok (.lload_n 0, 1) := by decide +kernel
theorem dJ13_bitCount_95d88_11 : decode cJ13_bitCount_95d88 11 = .ok (.ldc2_w 316, 3) := by decide +kernel
theorem dJ13_bitCount_95d88_14 : decode cJ13_bitCount_95d88 14 = .ok (.land, 1) := by decide +kernel
theorem dJ13_bitCount_95d88_15 : decode cJ13_bitCount_95d88 15 = .ok (.lload_n 0, 1) := by decide +kernel
theorem dJ13_bitCount_95d88_16 : decode cJ13_bitCount_95d88 16 = .ok (.iconst 2, 1) := by decide +kernel
theorem dJ13_bitCount_95d88_17 : decode cJ13_bitCount_95d88 17 = .ok (.lushr, 1) := by decide +kernel
theorem dJ13_bitCount_95d88_18 : decode cJ13_bitCount_95d88 18 = .ok (.ldc2_w 316, 3) := by decide +kernel
theorem dJ13_bitCount_95d88_21 : decode cJ13_bitCount_95d88 21 = .ok (.land, 1) := by decide +kernel
theorem dJ13_bitCount_95d88_22 : decode cJ13_bitCount_95d88 22 = .ok (.ladd, 1) := by decide +kernel
theorem dJ13_bitCount_95d88_23 : decode cJ13_bitCount_95d88 23 = .ok (.lstore_n 0, 1) := by decide +kernel
theorem dJ13_bitCount_95d88_24 : decode cJ13_bitCount_95d88 24 = .ok (.lload_n 0, 1) := by decide +kernel
theorem dJ13_bitCount_95d88_25 : decode cJ13_bitCount_95d88 25 = .ok (.lload_n 0, 1) := by decide +kernel
theorem dJ13_bitCount_95d88_26 : decode cJ13_bitCount_95d88 26 = .ok (.iconst 4, 1) := by decide +kernel
theorem dJ13_bitCount_95d88_27 : decode cJ13_bitCount_95d88 27 = .ok (.lushr, 1) := by decide +kernel
theorem dJ13_bitCount_95d88_28 : decode cJ13_bitCount_95d88 28 = .ok (.ladd, 1) := by decide +kernel
theorem dJ13_bitCount_95d88_29 : decode cJ13_bitCount_95d88 29 = .ok (.ldc2_w 318, 3) := by decide +kernel
theorem dJ13_bitCount_95d88_32 : decode cJ13_bitCount_95d88 32 = .ok (.land, 1) := by decide +kernel
theorem dJ13_bitCount_95d88_33 : decode cJ13_bitCount_95d88 33 = .ok (.lstore_n 0, 1) := by decide +kernel
theorem dJ13_bitCount_95d88_34 : decode cJ13_bitCount_95d88 34 = .ok (.lload_n 0, 1) := by decide +kernel
theorem dJ13_bitCount_95d88_35 : decode cJ13_bitCount_95d88 35 = .ok (.lload_n 0, 1) := by decide +kernel
theorem dJ13_bitCount_95d88_36 : decode cJ13_bitCount_95d88 36 = .ok (.bipush 8, 2) := by decide +kernel
theorem dJ13_bitCount_95d88_38 : decode cJ13_bitCount_95d88 38 = .ok (.lushr, 1) := by decide +kernel
theorem dJ13_bitCount_95d88_39 : decode cJ13_bitCount_95d88 39 = .ok (.ladd, 1) := by decide +kernel
theorem dJ13_bitCount_95d88_40 : decode cJ13_bitCount_95d88 40 = .ok (.lstore_n 0, 1) := by decide +kernel
theorem dJ13_bitCount_95d88_41 : decode cJ13_bitCount_95d88 41 = .ok (.lload_n 0, 1) := by decide +kernel
theorem dJ13_bitCount_95d88_42 : decode cJ13_bitCount_95d88 42 = .ok (.lload_n 0, 1) := by decide +kernel
theorem dJ13_bitCount_95d88_43 : decode cJ13_bitCount_95d88 43 = .ok (.bipush 16, 2) := by decide +kernel
theorem dJ13_bitCount_95d88_45 : decode cJ13_bitCount_95d88 45 = .ok (.lushr, 1) := by decide +kernel
theorem dJ13_bitCount_95d88_46 : decode cJ13_bitCount_95d88 46 = .ok (.ladd, 1) := by decide +kernel
theorem dJ13_bitCount_95d88_47 : decode cJ13_bitCount_95d88 47 = .ok (.lstore_n 0, 1) := by decide +kernel
theorem dJ13_bitCount_95d88_48 : decode cJ13_bitCount_95d88 48 = .ok (.lload_n 0, 1) := by decide +kernel
theorem dJ13_bitCount_95d88_49 : decode cJ13_bitCount_95d88 49 = .ok (.lload_n 0, 1) := by decide +kernel
theorem dJ13_bitCount_95d88_50 : decode cJ13_bitCount_95d88 50 = .ok (.bipush 32, 2) := by decide +kernel
theorem dJ13_bitCount_95d88_52 : decode cJ13_bitCount_95d88 52 = .ok (.lushr, 1) := by decide +kernel
theorem dJ13_bitCount_95d88_53 : decode cJ13_bitCount_95d88 53 = .ok (.ladd, 1) := by decide +kernel
theorem dJ13_bitCount_95d88_54 : decode cJ13_bitCount_95d88 54 = .ok (.lstore_n 0, 1) := by decide +kernel
theorem dJ13_bitCount_95d88_55 : decode cJ13_bitCount_95d88 55 = .ok (.lload_n 0, 1) := by decide +kernel
theorem dJ13_bitCount_95d88_56 : decode cJ13_bitCount_95d88 56 = .ok (.l2i, 1) := by decide +kernel
theorem dJ13_bitCount_95d88_57 : decode cJ13_bitCount_95d88 57 = .ok (.bipush 127, 2) := by decide +kernel
theorem dJ13_bitCount_95d88_59 : decode cJ13_bitCount_95d88 59 = .ok (.iand, 1) := by decide +kernel
theorem dJ13_bitCount_95d88_60 : decode cJ13_bitCount_95d88 60 = .ok (.ireturn, 1) := by decide +kernel
theorem dJ9_floorDiv_7cf53_0 : decode cJ9_floorDiv_7cf53 0 = .ok (.iload_n 0, 1) := by decide +kernel
theorem dJ9_floorDiv_7cf53_1 : decode cJ9_floorDiv_7cf53 1 = .ok (.iload_n 1, 1) := by decide +kernel
theorem dJ9_floorDiv_7cf53_2 : decode cJ9_floorDiv_7cf53 2 = .ok (.idiv, 1) := by decide +kernel
theorem dJ9_floorDiv_7cf53_3 : decode cJ9_floorDiv_7cf53 3 = .ok (.istore_n 2, 1) := by decide +kernel
theorem dJ9_floorDiv_7cf53_4 : decode cJ9_floorDiv_7cf53 4 = .ok (.iload_n 0, 1) := by decide +kernel
theorem dJ9_floorDiv_7cf53_5 : decode cJ9_floorDiv_7cf53 5 = .ok (.iload_n 1, 1) := by decide +kernel
theorem dJ9_floorDiv_7cf53_6 : decode cJ9_floorDiv_7cf53 6 = .ok (.ixor, 1) := by decide +kernel
theorem dJ9_floorDiv_7cf53_7 : decode cJ9_floorDiv_7cf53 7 = .ok (.ifCond .ge 14, 3) := by decide +kernel
theorem dJ9_floorDiv_7cf53_10 : decode cJ9_floorDiv_7cf53 10 = .ok (.iload_n 2, 1) := by decide +kernel
theorem dJ9_floorDiv_7cf53_11 : decode cJ9_floorDiv_7cf53 11 = .ok (.iload_n 1, 1) := by decide +kernel
theorem dJ9_floorDiv_7cf53_12 : decode cJ9_floorDiv_7cf53 12 = .ok (.imul, 1) := by decide +kernel
theorem dJ9_floorDiv_7cf53_13 : decode cJ9_floorDiv_7cf53 13 = .ok (.iload_n 0, 1) := by decide +kernel
theorem dJ9_floorDiv_7cf53_14 : decode cJ9_floorDiv_7cf53 14 = .ok (.if_icmp .eq 7, 3) := by decide +kernel
theorem dJ9_floorDiv_7cf53_17 : decode cJ9_floorDiv_7cf53 17 = .ok (.iload_n 2, 1) := by decide +kernel
theorem dJ9_floorDiv_7cf53_18 : decode cJ9_floorDiv_7cf53 18 = .ok (.iconst 1, 1) := by decide +kernel
theorem dJ9_floorDiv_7cf53_19 : decode cJ9_floorDiv_7cf53 19 = .ok (.isub, 1) := by decide +kernel
theorem dJ9_floorDiv_7cf53_20 : decode cJ9_floorDiv_7cf53 20 = .ok (.ireturn, 1) := by decide +kernel
theorem dJ9_floorDiv_7cf53_21 : decode cJ9_floorDiv_7cf53 21 = .ok (.iload_n 2, 1) := by decide +kernel
theorem dJ9_floorDiv_7cf53_22 : decode cJ9_floorDiv_7cf53 22 = .ok (.ireturn, 1) := by decide +kernel
theorem dJ9_max_7cf53_0 : decode cJ9_max_7cf53 0 = .ok (.iload_n 0, 1) := by decide +kernel
theorem dJ9_max_7cf53_1 : decode cJ9_max_7cf53 1 = .ok (.iload_n 1, 1) := by decide +kernel
theorem dJ9_max_7cf53_2 : decode cJ9_max_7cf53 2 = .ok (.if_icmp .lt 7, 3) := by decide +kernel
theorem dJ9_max_7cf53_5 : decode cJ9_max_7cf53 5 = .ok (.iload_n 0, 1) := by decide +kernel
theorem dJ9_max_7cf53_6 : decode cJ9_max_7cf53 6 = .ok (.goto 4, 3) := by decide +kernel
theorem dJ9_max_7cf53_9 : decode cJ9_max_7cf53 9 = .ok (.iload_n 1, 1) := by decide +kernel
theorem dJ9_max_7cf53_10 : decode cJ9_max_7cf53 10 = .ok (.ireturn, 1) := by decide +kernel
theorem dJ9_min_7cf53_0 : decode cJ9_min_7cf53 0 = .ok (.iload_n 0, 1) := by decide +kernel
theorem dJ9_min_7cf53_1 : decode cJ9_min_7cf53 1 = .ok (.iload_n 1, 1) := by decide +kernel
theorem dJ9_min_7cf53_2 : decode cJ9_min_7cf53 2 = .ok (.if_icmp .gt 7, 3) := by decide +kernel
theorem dJ9_min_7cf53_5 : decode cJ9_min_7cf53 5 = .ok (.iload_n 0, 1) := by decide +kernel
theorem dJ9_min_7cf53_6 : decode cJ9_min_7cf53 6 = .ok (.goto 4, 3) := by decide +kernel
theorem dJ9_min_7cf53_9 : decode cJ9_min_7cf53 9 = .ok (.iload_n 1, 1) := by decide +kernel
theorem dJ9_min_7cf53_10 : decode cJ9_min_7cf53 10 = .ok (.ireturn, 1) := by decide +kernel
theorem dJ9_min_f86c9_0 : decode cJ9_min_f86c9 0 = .ok (.lload_n 0, 1) := by decide +kernel
theorem dJ9_min_f86c9_1 : decode cJ9_min_f86c9 1 = .ok (.lload_n 2, 1) := by decide +kernel
theorem dJ9_min_f86c9_2 : decode cJ9_min_f86c9 2 = .ok (.lcmp, 1) := by decide +kernel
theorem dJ9_min_f86c9_3 : decode cJ9_min_f86c9 3 = .ok (.ifCond .gt 7, 3) := by decide +kernel
theorem dJ9_min_f86c9_6 : decode cJ9_min_f86c9 6 = .ok (.lload_n 0, 1) := by decide +kernel
theorem dJ9_min_f86c9_7 : decode cJ9_min_f86c9 7 = .ok (.goto 4, 3) := by decide +kernel
theorem dJ9_min_f86c9_10 : decode cJ9_min_f86c9 10 = .ok (.lload_n 2, 1) := by decide +kernel
theorem dJ9_min_f86c9_11 : decode cJ9_min_f86c9 11 = .ok (.lreturn, 1) := by decide +kernel
theorem dL_below_0 : decode cL_below 0 = .ok (.iload_n 0, 1) := by decide +kernel
theorem dL_below_1 : decode cL_below 1 = .ok (.ldc 7, 2) := by decide +kernel
theorem dL_below_3 : decode cL_below 3 = .ok (.iand, 1) := by decide +kernel
theorem dL_below_4 : decode cL_below 4 = .ok (.iload_n 1, 1) := by decide +kernel
theorem dL_below_5 : decode cL_below 5 = .ok (.irem, 1) := by decide +kernel
theorem dL_below_6 : decode cL_below 6 = .ok (.ireturn, 1) := by decide +kernel
theorem dL_cell_0 : decode cL_cell 0 = .ok (.iload_n 1, 1) := by decide +kernel
theorem dL_cell_1 : decode cL_cell 1 = .ok (.aload_n 0, 1) := by decide +kernel
theorem dL_cell_2 : decode cL_cell 2 = .ok (.arraylength, 1) := by decide +kernel
theorem dL_cell_3 : decode cL_cell 3 = .ok (.if_icmp .ge 9, 3) := by decide +kernel
theorem dL_cell_6 : decode cL_cell 6 = .ok (.aload_n 0, 1) := by decide +kernel
theorem dL_cell_7 : decode cL_cell 7 = .ok (.iload_n 1, 1) := by decide +kernel
theorem dL_cell_8 : decode cL_cell 8 = .ok (.iaload, 1) := by decide +kernel
theorem dL_cell_9 : decode cL_cell 9 = .ok (.goto 9, 3) := by decide +kernel
theorem dL_cell_12 : decode cL_cell 12 = .ok (.ldc 8, 2) := by decide +kernel
theorem dL_cell_14 : decode cL_cell 14 = .ok (.iload_n 1, 1) := by decide +kernel
theorem dL_cell_15 : decode cL_cell 15 = .ok (.iconst 3, 1) := by decide +kernel
theorem dL_cell_16 : decode cL_cell 16 = .ok (.iadd, 1) := by decide +kernel
theorem dL_cell_17 : decode cL_cell 17 = .ok (.imul, 1) := by decide +kernel
theorem dL_cell_18 : decode cL_cell 18 = .ok (.ireturn, 1) := by decide +kernel
theorem dL_build_0 : decode cL_build 0 = .ok (.new 9, 3) := by decide +kernel
theorem dL_build_3 : decode cL_build 3 = .ok (.dup, 1) := by decide +kernel
theorem dL_build_4 : decode cL_build 4 = .ok (.invokespecial 11, 3) := by decide +kernel
theorem dL_build_7 : decode cL_build 7 = .ok (.astore_n 3, 1) := by decide +kernel
theorem dL_build_8 : decode cL_build 8 = .ok (.iconst 1, 1) := by decide +kernel
theorem dL_build_9 : decode cL_build 9 = .ok (.aload_n 1, 1) := by decide +kernel
theorem dL_build_10 : decode cL_build 10 = .ok (.iconst 0, 1) := by decide +kernel
theorem dL_build_11 : decode cL_build 11 = .ok (.invokestatic 12, 3) := by decide +kernel
theorem dL_build_14 : decode cL_build 14 = .ok (.iconst 3, 1) := by decide +kernel
theorem dL_build_15 : decode cL_build 15 = .ok (.invokestatic 18, 3) := by decide +kernel
theorem dL_build_18 : decode cL_build 18 = .ok (.iadd, 1) := by decide +kernel
theorem dL_build_19 : decode cL_build 19 = .ok (.istore 4, 2) := by decide +kernel
theorem dL_build_21 : decode cL_build 21 = .ok (.iconst 0, 1) := by decide +kernel
theorem dL_build_22 : decode cL_build 22 = .ok (.istore 5, 2) := by decide +kernel
theorem dL_build_24 : decode cL_build 24 = .ok (.iload 5, 2) := by decide +kernel
theorem dL_build_26 : decode cL_build 26 = .ok (.iload 4, 2) := by decide +kernel
theorem dL_build_28 : decode cL_build 28 = .ok (.if_icmp .ge 110, 3) := by decide +kernel
theorem dL_build_31 : decode cL_build 31 = .ok (.iconst 5, 1) := by decide +kernel
theorem dL_build_32 : decode cL_build 32 = .ok (.newarray .int, 2) := by decide +kernel
theorem dL_build_34 : decode cL_build 34 = .ok (.dup, 1) := by decide +kernel
theorem dL_build_35 : decode cL_build 35 = .ok (.iconst 0, 1) := by decide +kernel
theorem dL_build_36 : decode cL_build 36 = .ok (.iconst 1, 1) := by decide +kernel
theorem dL_build_37 : decode cL_build 37 = .ok (.aload_n 1, 1) := by decide +kernel
theorem dL_build_38 : decode cL_build 38 = .ok (.iconst 1, 1) := by decide +kernel
theorem dL_build_39 : decode cL_build 39 = .ok (.invokestatic 12, 3) := by decide +kernel
theorem dL_build_42 : decode cL_build 42 = .ok (.iconst 3, 1) := by decide +kernel
theorem dL_build_43 : decode cL_build 43 = .ok (.iload 5, 2) := by decide +kernel
theorem dL_build_45 : decode cL_build 45 = .ok (.imul, 1) := by decide +kernel
theorem dL_build_46 : decode cL_build 46 = .ok (.ishr, 1) := by decide +kernel
theorem dL_build_47 : decode cL_build 47 = .ok (.bipush 50, 2) := by decide +kernel
theorem dL_build_49 : decode cL_build 49 = .ok (.invokestatic 18, 3) := by decide +kernel
theorem dL_build_52 : decode cL_build 52 = .ok (.iadd, 1) := by decide +kernel
theorem dL_build_53 : decode cL_build 53 = .ok (.iastore, 1) := by decide +kernel
theorem dL_build_54 : decode cL_build 54 = .ok (.dup, 1) := by decide +kernel
theorem dL_build_55 : decode cL_build 55 = .ok (.iconst 1, 1) := by decide +kernel
theorem dL_build_56 : decode cL_build 56 = .ok (.iconst 1, 1) := by decide +kernel
theorem dL_build_57 : decode cL_build 57 = .ok (.aload_n 1, 1) := by decide +kernel
theorem dL_build_58 : decode cL_build 58 = .ok (.iconst 2, 1) := by decide +kernel
theorem dL_build_59 : decode cL_build 59 = .ok (.invokestatic 12, 3) := by decide +kernel
theorem dL_build_62 : decode cL_build 62 = .ok (.iconst 2, 1) := by decide +kernel
theorem dL_build_63 : decode cL_build 63 = .ok (.iload 5, 2) := by decide +kernel
theorem dL_build_65 : decode cL_build 65 = .ok (.imul, 1) := by decide +kernel
theorem dL_build_66 : decode cL_build 66 = .ok (.ishr, 1) := by decide +kernel
theorem dL_build_67 : decode cL_build 67 = .ok (.iload_n 2, 1) := by decide +kernel
theorem dL_build_68 : decode cL_build 68 = .ok (.invokestatic 18, 3) := by decide +kernel
theorem dL_build_71 : decode cL_build 71 = .ok (.iadd, 1) := by decide +kernel
theorem dL_build_72 : decode cL_build 72 = .ok (.iastore, 1) := by decide +kernel
theorem dL_build_73 : decode cL_build 73 = .ok (.dup, 1) := by decide +kernel
theorem dL_build_74 : decode cL_build 74 = .ok (.iconst 2, 1) := by decide +kernel
theorem dL_build_75 : decode cL_build 75 = .ok (.iconst 0, 1) := by decide +kernel
theorem dL_build_76 : decode cL_build 76 = .ok (.iastore, 1) := by decide +kernel
theorem dL_build_77 : decode cL_build 77 = .ok (.dup, 1) := by decide +kernel
theorem dL_build_78 : decode cL_build 78 = .ok (.iconst 3, 1) := by decide +kernel
theorem dL_build_79 : decode cL_build 79 = .ok (.iconst 0, 1) := by decide +kernel
theorem dL_build_80 : decode cL_build 80 = .ok (.iastore, 1) := by decide +kernel
theorem dL_build_81 : decode cL_build 81 = .ok (.dup, 1) := by decide +kernel
theorem dL_build_82 : decode cL_build 82 = .ok (.iconst 4, 1) := by decide +kernel
theorem dL_build_83 : decode cL_build 83 = .ok (.iconst 0, 1) := by decide +kernel
theorem dL_build_84 : decode cL_build 84 = .ok (.iastore, 1) := by decide +kernel
theorem dL_build_85 : decode cL_build 85 = .ok (.astore 6, 2) := by decide +kernel
theorem dL_build_87 : decode cL_build 87 = .ok (.aload_n 0, 1) := by decide +kernel
theorem dL_build_88 : decode cL_build 88 = .ok (.aload 6, 2) := by decide +kernel
theorem dL_build_90 : decode cL_build 90 = .ok (.iconst 0, 1) := by decide +kernel
theorem dL_build_91 : decode cL_build 91 = .ok (.iaload, 1) := by decide +kernel
theorem dL_build_92 : decode cL_build 92 = .ok (.invokevirtual 22, 3) := by decide +kernel
theorem dL_build_95 : decode cL_build 95 = .ok (.iload 5, 2) := by decide +kernel
theorem dL_build_97 : decode cL_build 97 = .ok (.if_icmp .ne 20, 3) := by decide +kernel
theorem dL_build_100 : decode cL_build 100 = .ok (.aload_n 0, 1) := by decide +kernel
theorem dL_build_101 : decode cL_build 101 = .ok (.iload 5, 2) := by decide +kernel
theorem dL_build_103 : decode cL_build 103 = .ok (.aload 6, 2) := by decide +kernel
theorem dL_build_105 : decode cL_build 105 = .ok (.iconst 1, 1) := by decide +kernel
theorem dL_build_106 : decode cL_build 106 = .ok (.iaload, 1) := by decide +kernel
theorem dL_build_107 : decode cL_build 107 = .ok (.invokevirtual 28, 3) := by decide +kernel
theorem dL_build_110 : decode cL_build 110 = .ok (.aload 6, 2) := by decide +kernel
theorem dL_build_112 : decode cL_build 112 = .ok (.iconst 1, 1) := by decide +kernel
theorem dL_build_113 : decode cL_build 113 = .ok (.iaload, 1) := by decide +kernel
theorem dL_build_114 : decode cL_build 114 = .ok (.if_icmp .eq 5, 3) := by decide +kernel
theorem dL_build_117 : decode cL_build 117 = .ok (.aconst_null, 1) := by decide +kernel
theorem dL_build_118 : decode cL_build 118 = .ok (.areturn, 1) := by decide +kernel
theorem dL_build_119 : decode cL_build 119 = .ok (.aload_n 3, 1) := by decide +kernel
theorem dL_build_120 : decode cL_build 120 = .ok (.aload_n 3, 1) := by decide +kernel
theorem dL_build_121 : decode cL_build 121 = .ok (.getfield 31, 3) := by decide +kernel
theorem dL_build_124 : decode cL_build 124 = .ok (.aload 6, 2) := by decide +kernel
theorem dL_build_126 : decode cL_build 126 = .ok (.invokestatic 35, 3) := by decide +kernel
theorem dL_build_129 : decode cL_build 129 = .ok (.putfield 31, 3) := by decide +kernel
theorem dL_build_132 : decode cL_build 132 = .ok (.iinc 5 1, 3) := by decide +kernel
theorem dL_build_135 : decode cL_build 135 = .ok (.goto (-111), 3) := by decide +kernel
theorem dL_build_138 : decode cL_build 138 = .ok (.iconst 0, 1) := by decide +kernel
theorem dL_build_139 : decode cL_build 139 = .ok (.istore 5, 2) := by decide +kernel
theorem dL_build_141 : decode cL_build 141 = .ok (.iload 5, 2) := by decide +kernel
theorem dL_build_143 : decode cL_build 143 = .ok (.iload 4, 2) := by decide +kernel
theorem dL_build_145 : decode cL_build 145 = .ok (.if_icmp .ge 84, 3) := by decide +kernel
theorem dL_build_148 : decode cL_build 148 = .ok (.iload 5, 2) := by decide +kernel
theorem dL_build_150 : decode cL_build 150 = .ok (.iconst 1, 1) := by decide +kernel
theorem dL_build_151 : decode cL_build 151 = .ok (.iadd, 1) := by decide +kernel
theorem dL_build_152 : decode cL_build 152 = .ok (.istore 6, 2) := by decide +kernel
theorem dL_build_154 : decode cL_build 154 = .ok (.iload 6, 2) := by decide +kernel
theorem dL_build_156 : decode cL_build 156 = .ok (.iload 4, 2) := by decide +kernel
theorem dL_build_158 : decode cL_build 158 = .ok (.if_icmp .ge 65, 3) := by decide +kernel
theorem dL_build_161 : decode cL_build 161 = .ok (.aload_n 3, 1) := by decide +kernel
theorem dL_build_162 : decode cL_build 162 = .ok (.getfield 41, 3) := by decide +kernel
theorem dL_build_165 : decode cL_build 165 = .ok (.iload 5, 2) := by decide +kernel
theorem dL_build_167 : decode cL_build 167 = .ok (.aaload, 1) := by decide +kernel
theorem dL_build_168 : decode cL_build 168 = .ok (.iload 6, 2) := by decide +kernel
theorem dL_build_170 : decode cL_build 170 = .ok (.aload_n 1, 1) := by decide +kernel
theorem dL_build_171 : decode cL_build 171 = .ok (.iconst 3, 1) := by decide +kernel
theorem dL_build_172 : decode cL_build 172 = .ok (.invokestatic 12, 3) := by decide +kernel
theorem dL_build_175 : decode cL_build 175 = .ok (.iload 5, 2) := by decide +kernel
theorem dL_build_177 : decode cL_build 177 = .ok (.iload 6, 2) := by decide +kernel
theorem dL_build_179 : decode cL_build 179 = .ok (.iadd, 1) := by decide +kernel
theorem dL_build_180 : decode cL_build 180 = .ok (.ishr, 1) := by decide +kernel
theorem dL_build_181 : decode cL_build 181 = .ok (.iconst 2, 1) := by decide +kernel
theorem dL_build_182 : decode cL_build 182 = .ok (.invokestatic 18, 3) := by decide +kernel
theorem dL_build_185 : decode cL_build 185 = .ok (.ifCond .ne 7, 3) := by decide +kernel
theorem dL_build_188 : decode cL_build 188 = .ok (.iconst 1, 1) := by decide +kernel
theorem dL_build_189 : decode cL_build 189 = .ok (.goto 4, 3) := by decide +kernel
theorem dL_build_192 : decode cL_build 192 = .ok (.iconst 0, 1) := by decide +kernel
theorem dL_build_193 : decode cL_build 193 = .ok (.bastore, 1) := by decide +kernel
theorem dL_build_194 : decode cL_build 194 = .ok (.aload_n 0, 1) := by decide +kernel
theorem dL_build_195 : decode cL_build 195 = .ok (.iload 6, 2) := by decide +kernel
theorem dL_build_197 : decode cL_build 197 = .ok (.iload 5, 2) := by decide +kernel
theorem dL_build_199 : decode cL_build 199 = .ok (.aload_n 3, 1) := by decide +kernel
theorem dL_build_200 : decode cL_build 200 = .ok (.getfield 41, 3) := by decide +kernel
theorem dL_build_203 : decode cL_build 203 = .ok (.iload 5, 2) := by decide +kernel
theorem dL_build_205 : decode cL_build 205 = .ok (.aaload, 1) := by decide +kernel
theorem dL_build_206 : decode cL_build 206 = .ok (.iload 6, 2) := by decide +kernel
theorem dL_build_208 : decode cL_build 208 = .ok (.baload, 1) := by decide +kernel
theorem dL_build_209 : decode cL_build 209 = .ok (.invokevirtual 45, 3) := by decide +kernel
theorem dL_build_212 : decode cL_build 212 = .ok (.ifCond .ge 5, 3) := by decide +kernel
theorem dL_build_215 : decode cL_build 215 = .ok (.aconst_null, 1) := by decide +kernel
theorem dL_build_216 : decode cL_build 216 = .ok (.areturn, 1) := by decide +kernel
theorem dL_build_217 : decode cL_build 217 = .ok (.iinc 6 1, 3) := by decide +kernel
theorem dL_build_220 : decode cL_build 220 = .ok (.goto (-66), 3) := by decide +kernel
theorem dL_build_223 : decode cL_build 223 = .ok (.iinc 5 1, 3) := by decide +kernel
theorem dL_build_226 : decode cL_build 226 = .ok (.goto (-85), 3) := by decide +kernel
theorem dL_build_229 : decode cL_build 229 = .ok (.iconst 1, 1) := by decide +kernel
theorem dL_build_230 : decode cL_build 230 = .ok (.aload_n 1, 1) := by decide +kernel
theorem dL_build_231 : decode cL_build 231 = .ok (.iconst 0, 1) := by decide +kernel
theorem dL_build_232 : decode cL_build 232 = .ok (.invokestatic 12, 3) := by decide +kernel
theorem dL_build_235 : decode cL_build 235 = .ok (.iconst 5, 1) := by decide +kernel
theorem dL_build_236 : decode cL_build 236 = .ok (.ishr, 1) := by decide +kernel
theorem dL_build_237 : decode cL_build 237 = .ok (.iconst 4, 1) := by decide +kernel
theorem dL_build_238 : decode cL_build 238 = .ok (.invokestatic 18, 3) := by decide +kernel
theorem dL_build_241 : decode cL_build 241 = .ok (.iadd, 1) := by decide +kernel
theorem dL_build_242 : decode cL_build 242 = .ok (.istore 5, 2) := by decide +kernel
theorem dL_build_244 : decode cL_build 244 = .ok (.iconst 0, 1) := by decide +kernel
theorem dL_build_245 : decode cL_build 245 = .ok (.istore 6, 2) := by decide +kernel
theorem dL_build_247 : decode cL_build 247 = .ok (.iload 6, 2) := by decide +kernel
theorem dL_build_249 : decode cL_build 249 = .ok (.iload 5, 2) := by decide +kernel
theorem dL_build_251 : decode cL_build 251 = .ok (.if_icmp .ge 677, 3) := by decide +kernel
theorem dL_build_254 : decode cL_build 254 = .ok (.aload_n 1, 1) := by decide +kernel
theorem dL_build_255 : decode cL_build 255 = .ok (.iconst 4, 1) := by decide +kernel
theorem dL_build_256 : decode cL_build 256 = .ok (.iload 6, 2) := by decide +kernel
theorem dL_build_258 : decode cL_build 258 = .ok (.iadd, 1) := by decide +kernel
theorem dL_build_259 : decode cL_build 259 = .ok (.invokestatic 12, 3) := by decide +kernel
theorem dL_build_262 : decode cL_build 262 = .ok (.istore 7, 2) := by decide +kernel
theorem dL_build_264 : decode cL_build 264 = .ok (.new 36, 3) := by decide +kernel
theorem dL_build_267 : decode cL_build 267 = .ok (.dup, 1) := by decide +kernel
theorem dL_build_268 : decode cL_build 268 = .ok (.invokespecial 49, 3) := by decide +kernel
theorem dL_build_271 : decode cL_build 271 = .ok (.astore 8, 2) := by decide +kernel
theorem dL_build_273 : decode cL_build 273 = .ok (.aload 8, 2) := by decide +kernel
theorem dL_build_275 : decode cL_build 275 = .ok (.iload 7, 2) := by decide +kernel
theorem dL_build_277 : decode cL_build 277 = .ok (.iload 4, 2) := by decide +kernel
theorem dL_build_279 : decode cL_build 279 = .ok (.invokestatic 18, 3) := by decide +kernel
theorem dL_build_282 : decode cL_build 282 = .ok (.putfield 50, 3) := by decide +kernel
theorem dL_build_285 : decode cL_build 285 = .ok (.aload 8, 2) := by decide +kernel
theorem dL_build_287 : decode cL_build 287 = .ok (.iload 7, 2) := by decide +kernel
theorem dL_build_289 : decode cL_build 289 = .ok (.iconst 2, 1) := by decide +kernel
theorem dL_build_290 : decode cL_build 290 = .ok (.ishr, 1) := by decide +kernel
theorem dL_build_291 : decode cL_build 291 = .ok (.bipush 21, 2) := by decide +kernel
theorem dL_build_293 : decode cL_build 293 = .ok (.invokestatic 18, 3) := by decide +kernel
theorem dL_build_296 : decode cL_build 296 = .ok (.putfield 54, 3) := by decide +kernel
theorem dL_build_299 : decode cL_build 299 = .ok (.aload 8, 2) := by decide +kernel
theorem dL_build_301 : decode cL_build 301 = .ok (.bipush 8, 2) := by decide +kernel
theorem dL_build_303 : decode cL_build 303 = .ok (.iload 7, 2) := by decide +kernel
theorem dL_build_305 : decode cL_build 305 = .ok (.iconst 4, 1) := by decide +kernel
theorem dL_build_306 : decode cL_build 306 = .ok (.ishr, 1) := by decide +kernel
theorem dL_build_307 : decode cL_build 307 = .ok (.bipush 30, 2) := by decide +kernel
theorem dL_build_309 : decode cL_build 309 = .ok (.invokestatic 18, 3) := by decide +kernel
theorem dL_build_312 : decode cL_build 312 = .ok (.iadd, 1) := by decide +kernel
theorem dL_build_313 : decode cL_build 313 = .ok (.putfield 57, 3) := by decide +kernel
theorem dL_build_316 : decode cL_build 316 = .ok (.aload 8, 2) := by decide +kernel
theorem dL_build_318 : decode cL_build 318 = .ok (.iconst 1, 1) := by decide +kernel
theorem dL_build_319 : decode cL_build 319 = .ok (.iload 7, 2) := by decide +kernel
theorem dL_build_321 : decode cL_build 321 = .ok (.bipush 6, 2) := by decide +kernel
theorem dL_build_323 : decode cL_build 323 = .ok (.ishr, 1) := by decide +kernel
theorem dL_build_324 : decode cL_build 324 = .ok (.bipush 12, 2) := by decide +kernel
theorem dL_build_326 : decode cL_build 326 = .ok (.invokestatic 18, 3) := by decide +kernel
theorem dL_build_329 : decode cL_build 329 = .ok (.iadd, 1) := by decide +kernel
theorem dL_build_330 : decode cL_build 330 = .ok (.putfield 60, 3) := by decide +kernel
theorem dL_build_333 : decode cL_build 333 = .ok (.aload 8, 2) := by decide +kernel
theorem dL_build_335 : decode cL_build 335 = .ok (.iconst 1, 1) := by decide +kernel
theorem dL_build_336 : decode cL_build 336 = .ok (.iload 7, 2) := by decide +kernel
theorem dL_build_338 : decode cL_build 338 = .ok (.bipush 9, 2) := by decide +kernel
theorem dL_build_340 : decode cL_build 340 = .ok (.ishr, 1) := by decide +kernel
theorem dL_build_341 : decode cL_build 341 = .ok (.bipush 12, 2) := by decide +kernel
theorem dL_build_343 : decode cL_build 343 = .ok (.invokestatic 18, 3) := by decide +kernel
theorem dL_build_346 : decode cL_build 346 = .ok (.iadd, 1) := by decide +kernel
theorem dL_build_347 : decode cL_build 347 = .ok (.putfield 63, 3) := by decide +kernel
theorem dL_build_350 : decode cL_build 350 = .ok (.aload_n 0, 1) := by decide +kernel
theorem dL_build_351 : decode cL_build 351 = .ok (.aload 8, 2) := by decide +kernel
theorem dL_build_353 : decode cL_build 353 = .ok (.getfield 50, 3) := by decide +kernel
theorem dL_build_356 : decode cL_build 356 = .ok (.aload 8, 2) := by decide +kernel
theorem dL_build_358 : decode cL_build 358 = .ok (.getfield 54, 3) := by decide +kernel
theorem dL_build_361 : decode cL_build 361 = .ok (.aload 8, 2) := by decide +kernel
theorem dL_build_363 : decode cL_build 363 = .ok (.getfield 57, 3) := by decide +kernel
theorem dL_build_366 : decode cL_build 366 = .ok (.aload 8, 2) := by decide +kernel
theorem dL_build_368 : decode cL_build 368 = .ok (.getfield 60, 3) := by decide +kernel
theorem dL_build_371 : decode cL_build 371 = .ok (.aload 8, 2) := by decide +kernel
theorem dL_build_373 : decode cL_build 373 = .ok (.getfield 63, 3) := by decide +kernel
theorem dL_build_376 : decode cL_build 376 = .ok (.invokevirtual 66, 3) := by decide +kernel
theorem dL_build_379 : decode cL_build 379 = .ok (.iload 6, 2) := by decide +kernel
theorem dL_build_381 : decode cL_build 381 = .ok (.if_icmp .eq 5, 3) := by decide +kernel
theorem dL_build_384 : decode cL_build 384 = .ok (.aconst_null, 1) := by decide +kernel
theorem dL_build_385 : decode cL_build 385 = .ok (.areturn, 1) := by decide +kernel
theorem dL_build_386 : decode cL_build 386 = .ok (.aload_n 1, 1) := by decide +kernel
theorem dL_build_387 : decode cL_build 387 = .ok (.bipush 8, 2) := by decide +kernel
theorem dL_build_389 : decode cL_build 389 = .ok (.iload 6, 2) := by decide +kernel
theorem dL_build_391 : decode cL_build 391 = .ok (.iadd, 1) := by decide +kernel
theorem dL_build_392 : decode cL_build 392 = .ok (.invokestatic 12, 3) := by decide +kernel
theorem dL_build_395 : decode cL_build 395 = .ok (.bipush 9, 2) := by decide +kernel
theorem dL_build_397 : decode cL_build 397 = .ok (.invokestatic 18, 3) := by decide +kernel
theorem dL_build_400 : decode cL_build 400 = .ok (.istore 9, 2) := by decide +kernel
theorem dL_build_402 : decode cL_build 402 = .ok (.iconst 0, 1) := by decide +kernel
theorem dL_build_403 : decode cL_build 403 = .ok (.istore 10, 2) := by decide +kernel
theorem dL_build_405 : decode cL_build 405 = .ok (.iload 10, 2) := by decide +kernel
theorem dL_build_407 : decode cL_build 407 = .ok (.iload 9, 2) := by decide +kernel
theorem dL_build_409 : decode cL_build 409 = .ok (.if_icmp .ge 177, 3) := by decide +kernel
theorem dL_build_412 : decode cL_build 412 = .ok (.aload_n 1, 1) := by decide +kernel
theorem dL_build_413 : decode cL_build 413 = .ok (.bipush 9, 2) := by decide +kernel
theorem dL_build_415 : decode cL_build 415 = .ok (.iload 6, 2) := by decide +kernel
theorem dL_build_417 : decode cL_build 417 = .ok (.iadd, 1) := by decide +kernel
theorem dL_build_418 : decode cL_build 418 = .ok (.iload 10, 2) := by decide +kernel
theorem dL_build_420 : decode cL_build 420 = .ok (.iadd, 1) := by decide +kernel
theorem dL_build_421 : decode cL_build 421 = .ok (.bipush 16, 2) := by decide +kernel
theorem dL_build_423 : decode cL_build 423 = .ok (.irem, 1) := by decide +kernel
theorem dL_build_424 : decode cL_build 424 = .ok (.invokestatic 12, 3) := by decide +kernel
theorem dL_build_427 : decode cL_build 427 = .ok (.iconst 2, 1) := by decide +kernel
theorem dL_build_428 : decode cL_build 428 = .ok (.iload 10, 2) := by decide +kernel
theorem dL_build_430 : decode cL_build 430 = .ok (.imul, 1) := by decide +kernel
theorem dL_build_431 : decode cL_build 431 = .ok (.ishr, 1) := by decide +kernel
theorem dL_build_432 : decode cL_build 432 = .ok (.istore 11, 2) := by decide +kernel
theorem dL_build_434 : decode cL_build 434 = .ok (.iload 11, 2) := by decide +kernel
theorem dL_build_436 : decode cL_build 436 = .ok (.aload 8, 2) := by decide +kernel
theorem dL_build_438 : decode cL_build 438 = .ok (.getfield 57, 3) := by decide +kernel
theorem dL_build_441 : decode cL_build 441 = .ok (.invokestatic 18, 3) := by decide +kernel
theorem dL_build_444 : decode cL_build 444 = .ok (.istore 12, 2) := by decide +kernel
theorem dL_build_446 : decode cL_build 446 = .ok (.iload 11, 2) := by decide +kernel
theorem dL_build_448 : decode cL_build 448 = .ok (.iconst 5, 1) := by decide +kernel
theorem dL_build_449 : decode cL_build 449 = .ok (.ishr, 1) := by decide +kernel
theorem dL_build_450 : decode cL_build 450 = .ok (.bipush 6, 2) := by decide +kernel
theorem dL_build_452 : decode cL_build 452 = .ok (.invokestatic 18, 3) := by decide +kernel
theorem dL_build_455 : decode cL_build 455 = .ok (.istore 13, 2) := by decide +kernel
theorem dL_build_457 : decode cL_build 457 = .ok (.iconst 0, 1) := by decide +kernel
theorem dL_build_458 : decode cL_build 458 = .ok (.istore 14, 2) := by decide +kernel
theorem dL_build_460 : decode cL_build 460 = .ok (.aload 8, 2) := by decide +kernel
theorem dL_build_462 : decode cL_build 462 = .ok (.getfield 70, 3) := by decide +kernel
theorem dL_build_465 : decode cL_build 465 = .ok (.astore 15, 2) := by decide +kernel
theorem dL_build_467 : decode cL_build 467 = .ok (.aload 15, 2) := by decide +kernel
theorem dL_build_469 : decode cL_build 469 = .ok (.arraylength, 1) := by decide +kernel
theorem dL_build_470 : decode cL_build 470 = .ok (.istore 16, 2) := by decide +kernel
theorem dL_build_472 : decode cL_build 472 = .ok (.iconst 0, 1) := by decide +kernel
theorem dL_build_473 : decode cL_build 473 = .ok (.istore 17, 2) := by decide +kernel
theorem dL_build_475 : decode cL_build 475 = .ok (.iload 17, 2) := by decide +kernel
theorem dL_build_477 : decode cL_build 477 = .ok (.iload 16, 2) := by decide +kernel
theorem dL_build_479 : decode cL_build 479 = .ok (.if_icmp .ge 46, 3) := by decide +kernel
theorem dL_build_482 : decode cL_build 482 = .ok (.aload 15, 2) := by decide +kernel
theorem dL_build_484 : decode cL_build 484 = .ok (.iload 17, 2) := by decide +kernel
theorem dL_build_486 : decode cL_build 486 = .ok (.aaload, 1) := by decide +kernel
theorem dL_build_487 : decode cL_build 487 = .ok (.astore 18, 2) := by decide +kernel
theorem dL_build_489 : decode cL_build 489 = .ok (.iload 14, 2) := by decide +kernel
theorem dL_build_491 : decode cL_build 491 = .ok (.ifCond .ne 21, 3) := by decide +kernel
theorem dL_build_494 : decode cL_build 494 = .ok (.aload 18, 2) := by decide +kernel
theorem dL_build_496 : decode cL_build 496 = .ok (.iconst 0, 1) := by decide +kernel
theorem dL_build_497 : decode cL_build 497 = .ok (.iaload, 1) := by decide +kernel
theorem dL_build_498 : decode cL_build 498 = .ok (.iload 12, 2) := by decide +kernel
theorem dL_build_500 : decode cL_build 500 = .ok (.if_icmp .ne 16, 3) := by decide +kernel
theorem dL_build_503 : decode cL_build 503 = .ok (.aload 18, 2) := by decide +kernel
theorem dL_build_505 : decode cL_build 505 = .ok (.iconst 1, 1) := by decide +kernel
theorem dL_build_506 : decode cL_build 506 = .ok (.iaload, 1) := by decide +kernel
theorem dL_build_507 : decode cL_build 507 = .ok (.iload 13, 2) := by decide +kernel
theorem dL_build_509 : decode cL_build 509 = .ok (.if_icmp .ne 7, 3) := by decide +kernel
theorem dL_build_512 : decode cL_build 512 = .ok (.iconst 1, 1) := by decide +kernel
theorem dL_build_513 : decode cL_build 513 = .ok (.goto 4, 3) := by decide +kernel
theorem dL_build_516 : decode cL_build 516 = .ok (.iconst 0, 1) := by decide +kernel
theorem dL_build_517 : decode cL_build 517 = .ok (.istore 14, 2) := by decide +kernel
theorem dL_build_519 : decode cL_build 519 = .ok (.iinc 17 1, 3) := by decide +kernel
theorem dL_build_522 : decode cL_build 522 = .ok (.goto (-47), 3) := by decide +kernel
theorem dL_build_525 : decode cL_build 525 = .ok (.iload 14, 2) := by decide +kernel
theorem dL_build_527 : decode cL_build 527 = .ok (.ifCond .eq 6, 3) := by decide +kernel
theorem dL_build_530 : decode cL_build 530 = .ok (.goto 50, 3) := by decide +kernel
theorem dL_build_533 : decode cL_build 533 = .ok (.aload 8, 2) := by decide +kernel
theorem dL_build_535 : decode cL_build 535 = .ok (.aload 8, 2) := by decide +kernel
theorem dL_build_537 : decode cL_build 537 = .ok (.getfield 70, 3) := by decide +kernel
theorem dL_build_540 : decode cL_build 540 = .ok (.iconst 2, 1) := by decide +kernel
theorem dL_build_541 : decode cL_build 541 = .ok (.newarray .int, 2) := by decide +kernel
theorem dL_build_543 : decode cL_build 543 = .ok (.dup, 1) := by decide +kernel
theorem dL_build_544 : decode cL_build 544 = .ok (.iconst 0, 1) := by decide +kernel
theorem dL_build_545 : decode cL_build 545 = .ok (.iload 12, 2) := by decide +kernel
theorem dL_build_547 : decode cL_build 547 = .ok (.iastore, 1) := by decide +kernel
theorem dL_build_548 : decode cL_build 548 = .ok (.dup, 1) := by decide +kernel
theorem dL_build_549 : decode cL_build 549 = .ok (.iconst 1, 1) := by decide +kernel
theorem dL_build_550 : decode cL_build 550 = .ok (.iload 13, 2) := by decide +kernel
theorem dL_build_552 : decode cL_build 552 = .ok (.iastore, 1) := by decide +kernel
theorem dL_build_553 : decode cL_build 553 = .ok (.invokestatic 35, 3) := by decide +kernel
theorem dL_build_556 : decode cL_build 556 = .ok (.putfield 70, 3) := by decide +kernel
theorem dL_build_559 : decode cL_build 559 = .ok (.aload_n 0, 1) := by decide +kernel
theorem dL_build_560 : decode cL_build 560 = .ok (.iload 6, 2) := by decide +kernel
theorem dL_build_562 : decode cL_build 562 = .ok (.iload 12, 2) := by decide +kernel
theorem dL_build_564 : decode cL_build 564 = .ok (.iload 13, 2) := by decide +kernel
theorem dL_build_566 : decode cL_build 566 = .ok (.invokevirtual 73, 3) := by decide +kernel
theorem dL_build_569 : decode cL_build 569 = .ok (.aload 8, 2) := by decide +kernel
theorem dL_build_571 : decode cL_build 571 = .ok (.getfield 70, 3) := by decide +kernel
theorem dL_build_574 : decode cL_build 574 = .ok (.arraylength, 1) := by decide +kernel
theorem dL_build_575 : decode cL_build 575 = .ok (.if_icmp .eq 5, 3) := by decide +kernel
theorem dL_build_578 : decode cL_build 578 = .ok (.aconst_null, 1) := by decide +kernel
theorem dL_build_579 : decode cL_build 579 = .ok (.areturn, 1) := by decide +kernel
theorem dL_build_580 : decode cL_build 580 = .ok (.iinc 10 1, 3) := by decide +kernel
theorem dL_build_583 : decode cL_build 583 = .ok (.goto (-178), 3) := by decide +kernel
theorem dL_build_586 : decode cL_build 586 = .ok (.iconst 0, 1) := by decide +kernel
theorem dL_build_587 : decode cL_build 587 = .ok (.istore 10, 2) := by decide +kernel
theorem dL_build_589 : decode cL_build 589 = .ok (.iload 10, 2) := by decide +kernel
theorem dL_build_591 : decode cL_build 591 = .ok (.iconst 3, 1) := by decide +kernel
theorem dL_build_592 : decode cL_build 592 = .ok (.if_icmp .ge 225, 3) := by decide +kernel
theorem dL_build_595 : decode cL_build 595 = .ok (.aload_n 1, 1) := by decide +kernel
theorem dL_build_596 : decode cL_build 596 = .ok (.bipush 12, 2) := by decide +kernel
theorem dL_build_598 : decode cL_build 598 = .ok (.invokestatic 12, 3) := by decide +kernel
theorem dL_build_601 : decode cL_build 601 = .ok (.iload 6, 2) := by decide +kernel
theorem dL_build_603 : decode cL_build 603 = .ok (.iload 10, 2) := by decide +kernel
theorem dL_build_605 : decode cL_build 605 = .ok (.iadd, 1) := by decide +kernel
theorem dL_build_606 : decode cL_build 606 = .ok (.ishr, 1) := by decide +kernel
theorem dL_build_607 : decode cL_build 607 = .ok (.iconst 4, 1) := by decide +kernel
theorem dL_build_608 : decode cL_build 608 = .ok (.invokestatic 18, 3) := by decide +kernel
theorem dL_build_611 : decode cL_build 611 = .ok (.istore 11, 2) := by decide +kernel
theorem dL_build_613 : decode cL_build 613 = .ok (.iconst 0, 1) := by decide +kernel
theorem dL_build_614 : decode cL_build 614 = .ok (.istore 12, 2) := by decide +kernel
theorem dL_build_616 : decode cL_build 616 = .ok (.iload 12, 2) := by decide +kernel
theorem dL_build_618 : decode cL_build 618 = .ok (.iload 11, 2) := by decide +kernel
theorem dL_build_620 : decode cL_build 620 = .ok (.if_icmp .ge 191, 3) := by decide +kernel
theorem dL_build_623 : decode cL_build 623 = .ok (.aload_n 1, 1) := by decide +kernel
theorem dL_build_624 : decode cL_build 624 = .ok (.iconst 2, 1) := by decide +kernel
theorem dL_build_625 : decode cL_build 625 = .ok (.iload 10, 2) := by decide +kernel
theorem dL_build_627 : decode cL_build 627 = .ok (.iadd, 1) := by decide +kernel
theorem dL_build_628 : decode cL_build 628 = .ok (.iconst 5, 1) := by decide +kernel
theorem dL_build_629 : decode cL_build 629 = .ok (.iload 12, 2) := by decide +kernel
theorem dL_build_631 : decode cL_build 631 = .ok (.imul, 1) := by decide +kernel
theorem dL_build_632 : decode cL_build 632 = .ok (.iadd, 1) := by decide +kernel
theorem dL_build_633 : decode cL_build 633 = .ok (.iload 6, 2) := by decide +kernel
theorem dL_build_635 : decode cL_build 635 = .ok (.iadd, 1) := by decide +kernel
theorem dL_build_636 : decode cL_build 636 = .ok (.bipush 16, 2) := by decide +kernel
theorem dL_build_638 : decode cL_build 638 = .ok (.irem, 1) := by decide +kernel
theorem dL_build_639 : decode cL_build 639 = .ok (.invokestatic 12, 3) := by decide +kernel
theorem dL_build_642 : decode cL_build 642 = .ok (.iload 12, 2) := by decide +kernel
theorem dL_build_644 : decode cL_build 644 = .ok (.ishr, 1) := by decide +kernel
theorem dL_build_645 : decode cL_build 645 = .ok (.bipush 13, 2) := by decide +kernel
theorem dL_build_647 : decode cL_build 647 = .ok (.iload 12, 2) := by decide +kernel
theorem dL_build_649 : decode cL_build 649 = .ok (.imul, 1) := by decide +kernel
theorem dL_build_650 : decode cL_build 650 = .ok (.iadd, 1) := by decide +kernel
theorem dL_build_651 : decode cL_build 651 = .ok (.istore 13, 2) := by decide +kernel
theorem dL_build_653 : decode cL_build 653 = .ok (.iload 13, 2) := by decide +kernel
theorem dL_build_655 : decode cL_build 655 = .ok (.aload 8, 2) := by decide +kernel
theorem dL_build_657 : decode cL_build 657 = .ok (.getfield 57, 3) := by decide +kernel
theorem dL_build_660 : decode cL_build 660 = .ok (.invokestatic 18, 3) := by decide +kernel
theorem dL_build_663 : decode cL_build 663 = .ok (.istore 14, 2) := by decide +kernel
theorem dL_build_665 : decode cL_build 665 = .ok (.iload 13, 2) := by decide +kernel
theorem dL_build_667 : decode cL_build 667 = .ok (.iconst 4, 1) := by decide +kernel
theorem dL_build_668 : decode cL_build 668 = .ok (.ishr, 1) := by decide +kernel
theorem dL_build_669 : decode cL_build 669 = .ok (.bipush 101, 2) := by decide +kernel
theorem dL_build_671 : decode cL_build 671 = .ok (.invokestatic 18, 3) := by decide +kernel
theorem dL_build_674 : decode cL_build 674 = .ok (.istore 15, 2) := by decide +kernel
theorem dL_build_676 : decode cL_build 676 = .ok (.iconst (-1), 1) := by decide +kernel
theorem dL_build_677 : decode cL_build 677 = .ok (.istore 16, 2) := by decide +kernel
theorem dL_build_679 : decode cL_build 679 = .ok (.iconst 0, 1) := by decide +kernel
theorem dL_build_680 : decode cL_build 680 = .ok (.istore 17, 2) := by decide +kernel
theorem dL_build_682 : decode cL_build 682 = .ok (.iload 17, 2) := by decide +kernel
theorem dL_build_684 : decode cL_build 684 = .ok (.aload 8, 2) := by decide +kernel
theorem dL_build_686 : decode cL_build 686 = .ok (.getfield 77, 3) := by decide +kernel
theorem dL_build_689 : decode cL_build 689 = .ok (.iload 10, 2) := by decide +kernel
theorem dL_build_691 : decode cL_build 691 = .ok (.aaload, 1) := by decide +kernel
theorem dL_build_692 : decode cL_build 692 = .ok (.arraylength, 1) := by decide +kernel
theorem dL_build_693 : decode cL_build 693 = .ok (.if_icmp .ge 31, 3) := by decide +kernel
theorem dL_build_696 : decode cL_build 696 = .ok (.aload 8, 2) := by decide +kernel
theorem dL_build_698 : decode cL_build 698 = .ok (.getfield 77, 3) := by decide +kernel
theorem dL_build_701 : decode cL_build 701 = .ok (.iload 10, 2) := by decide +kernel
theorem dL_build_703 : decode cL_build 703 = .ok (.aaload, 1) := by decide +kernel
theorem dL_build_704 : decode cL_build 704 = .ok (.iload 17, 2) := by decide +kernel
theorem dL_build_706 : decode cL_build 706 = .ok (.aaload, 1) := by decide +kernel
theorem dL_build_707 : decode cL_build 707 = .ok (.iconst 0, 1) := by decide +kernel
theorem dL_build_708 : decode cL_build 708 = .ok (.iaload, 1) := by decide +kernel
theorem dL_build_709 : decode cL_build 709 = .ok (.iload 14, 2) := by decide +kernel
theorem dL_build_711 : decode cL_build 711 = .ok (.if_icmp .ne 7, 3) := by decide +kernel
theorem dL_build_714 : decode cL_build 714 = .ok (.iload 17, 2) := by decide +kernel
theorem dL_build_716 : decode cL_build 716 = .ok (.istore 16, 2) := by decide +kernel
theorem dL_build_718 : decode cL_build 718 = .ok (.iinc 17 1, 3) := by decide +kernel
theorem dL_build_721 : decode cL_build 721 = .ok (.goto (-39), 3) := by decide +kernel
theorem dL_build_724 : decode cL_build 724 = .ok (.iload 16, 2) := by decide +kernel
theorem dL_build_726 : decode cL_build 726 = .ok (.ifCond .lt 21, 3) := by decide +kernel
theorem dL_build_729 : decode cL_build 729 = .ok (.aload 8, 2) := by decide +kernel
theorem dL_build_731 : decode cL_build 731 = .ok (.getfield 77, 3) := by decide +kernel
theorem dL_build_734 : decode cL_build 734 = .ok (.iload 10, 2) := by decide +kernel
theorem dL_build_736 : decode cL_build 736 = .ok (.aaload, 1) := by decide +kernel
theorem dL_build_737 : decode cL_build 737 = .ok (.iload 16, 2) := by decide +kernel
theorem dL_build_739 : decode cL_build 739 = .ok (.aaload, 1) := by decide +kernel
theorem dL_build_740 : decode cL_build 740 = .ok (.iconst 1, 1) := by decide +kernel
theorem dL_build_741 : decode cL_build 741 = .ok (.iload 15, 2) := by decide +kernel
theorem dL_build_743 : decode cL_build 743 = .ok (.iastore, 1) := by decide +kernel
theorem dL_build_744 : decode cL_build 744 = .ok (.goto 35, 3) := by decide +kernel
theorem dL_build_747 : decode cL_build 747 = .ok (.aload 8, 2) := by decide +kernel
theorem dL_build_749 : decode cL_build 749 = .ok (.getfield 77, 3) := by decide +kernel
theorem dL_build_752 : decode cL_build 752 = .ok (.iload 10, 2) := by decide +kernel
theorem dL_build_754 : decode cL_build 754 = .ok (.aload 8, 2) := by decide +kernel
theorem dL_build_756 : decode cL_build 756 = .ok (.getfield 77, 3) := by decide +kernel
theorem dL_build_759 : decode cL_build 759 = .ok (.iload 10, 2) := by decide +kernel
theorem dL_build_761 : decode cL_build 761 = .ok (.aaload, 1) := by decide +kernel
theorem dL_build_762 : decode cL_build 762 = .ok (.iconst 2, 1) := by decide +kernel
theorem dL_build_763 : decode cL_build 763 = .ok (.newarray .int, 2) := by decide +kernel
theorem dL_build_765 : decode cL_build 765 = .ok (.dup, 1) := by decide +kernel
theorem dL_build_766 : decode cL_build 766 = .ok (.iconst 0, 1) := by decide +kernel
theorem dL_build_767 : decode cL_build 767 = .ok (.iload 14, 2) := by decide +kernel
theorem dL_build_769 : decode cL_build 769 = .ok (.iastore, 1) := by decide +kernel
theorem dL_build_770 : decode cL_build 770 = .ok (.dup, 1) := by decide +kernel
theorem dL_build_771 : decode cL_build 771 = .ok (.iconst 1, 1) := by decide +kernel
theorem dL_build_772 : decode cL_build 772 = .ok (.iload 15, 2) := by decide +kernel
theorem dL_build_774 : decode cL_build 774 = .ok (.iastore, 1) := by decide +kernel
theorem dL_build_775 : decode cL_build 775 = .ok (.invokestatic 35, 3) := by decide +kernel
theorem dL_build_778 : decode cL_build 778 = .ok (.aastore, 1) := by decide +kernel
theorem dL_build_779 : decode cL_build 779 = .ok (.aload_n 0, 1) := by decide +kernel
theorem dL_build_780 : decode cL_build 780 = .ok (.iload 6, 2) := by decide +kernel
theorem dL_build_782 : decode cL_build 782 = .ok (.iload 10, 2) := by decide +kernel
theorem dL_build_784 : decode cL_build 784 = .ok (.iload 14, 2) := by decide +kernel
theorem dL_build_786 : decode cL_build 786 = .ok (.iload 15, 2) := by decide +kernel
theorem dL_build_788 : decode cL_build 788 = .ok (.invokevirtual 81, 3) := by decide +kernel
theorem dL_build_791 : decode cL_build 791 = .ok (.aload 8, 2) := by decide +kernel
theorem dL_build_793 : decode cL_build 793 = .ok (.getfield 77, 3) := by decide +kernel
theorem dL_build_796 : decode cL_build 796 = .ok (.iload 10, 2) := by decide +kernel
theorem dL_build_798 : decode cL_build 798 = .ok (.aaload, 1) := by decide +kernel
theorem dL_build_799 : decode cL_build 799 = .ok (.arraylength, 1) := by decide +kernel
theorem dL_build_800 : decode cL_build 800 = .ok (.if_icmp .eq 5, 3) := by decide +kernel
theorem dL_build_803 : decode cL_build 803 = .ok (.aconst_null, 1) := by decide +kernel
theorem dL_build_804 : decode cL_build 804 = .ok (.areturn, 1) := by decide +kernel
theorem dL_build_805 : decode cL_build 805 = .ok (.iinc 12 1, 3) := by decide +kernel
theorem dL_build_808 : decode cL_build 808 = .ok (.goto (-192), 3) := by decide +kernel
theorem dL_build_811 : decode cL_build 811 = .ok (.iinc 10 1, 3) := by decide +kernel
theorem dL_build_814 : decode cL_build 814 = .ok (.goto (-225), 3) := by decide +kernel
theorem dL_build_817 : decode cL_build 817 = .ok (.iload 7, 2) := by decide +kernel
theorem dL_build_819 : decode cL_build 819 = .ok (.iconst 3, 1) := by decide +kernel
theorem dL_build_820 : decode cL_build 820 = .ok (.ishr, 1) := by decide +kernel
theorem dL_build_821 : decode cL_build 821 = .ok (.bipush 6, 2) := by decide +kernel
theorem dL_build_823 : decode cL_build 823 = .ok (.invokestatic 18, 3) := by decide +kernel
theorem dL_build_826 : decode cL_build 826 = .ok (.istore 10, 2) := by decide +kernel
theorem dL_build_828 : decode cL_build 828 = .ok (.iload 7, 2) := by decide +kernel
theorem dL_build_830 : decode cL_build 830 = .ok (.bipush 7, 2) := by decide +kernel
theorem dL_build_832 : decode cL_build 832 = .ok (.ishr, 1) := by decide +kernel
theorem dL_build_833 : decode cL_build 833 = .ok (.bipush 88, 2) := by decide +kernel
theorem dL_build_835 : decode cL_build 835 = .ok (.invokestatic 18, 3) := by decide +kernel
theorem dL_build_838 : decode cL_build 838 = .ok (.istore 11, 2) := by decide +kernel
theorem dL_build_840 : decode cL_build 840 = .ok (.aload_n 0, 1) := by decide +kernel
theorem dL_build_841 : decode cL_build 841 = .ok (.iload 6, 2) := by decide +kernel
theorem dL_build_843 : decode cL_build 843 = .ok (.iload 10, 2) := by decide +kernel
theorem dL_build_845 : decode cL_build 845 = .ok (.iload 11, 2) := by decide +kernel
theorem dL_build_847 : decode cL_build 847 = .ok (.invokevirtual 85, 3) := by decide +kernel
theorem dL_build_850 : decode cL_build 850 = .ok (.bipush 60, 2) := by decide +kernel
theorem dL_build_852 : decode cL_build 852 = .ok (.iconst 2, 1) := by decide +kernel
theorem dL_build_853 : decode cL_build 853 = .ok (.iload 10, 2) := by decide +kernel
theorem dL_build_855 : decode cL_build 855 = .ok (.imul, 1) := by decide +kernel
theorem dL_build_856 : decode cL_build 856 = .ok (.iadd, 1) := by decide +kernel
theorem dL_build_857 : decode cL_build 857 = .ok (.if_icmp .eq 5, 3) := by decide +kernel
theorem dL_build_860 : decode cL_build 860 = .ok (.aconst_null, 1) := by decide +kernel
theorem dL_build_861 : decode cL_build 861 = .ok (.areturn, 1) := by decide +kernel
theorem dL_build_862 : decode cL_build 862 = .ok (.aload 8, 2) := by decide +kernel
theorem dL_build_864 : decode cL_build 864 = .ok (.getfield 88, 3) := by decide +kernel
theorem dL_build_867 : decode cL_build 867 = .ok (.iload 10, 2) := by decide +kernel
theorem dL_build_869 : decode cL_build 869 = .ok (.iload 11, 2) := by decide +kernel
theorem dL_build_871 : decode cL_build 871 = .ok (.iastore, 1) := by decide +kernel
theorem dL_build_872 : decode cL_build 872 = .ok (.iload 6, 2) := by decide +kernel
theorem dL_build_874 : decode cL_build 874 = .ok (.iconst 1, 1) := by decide +kernel
theorem dL_build_875 : decode cL_build 875 = .ok (.iadd, 1) := by decide +kernel
theorem dL_build_876 : decode cL_build 876 = .ok (.anewarray 36, 3) := by decide +kernel
theorem dL_build_879 : decode cL_build 879 = .ok (.astore 12, 2) := by decide +kernel
theorem dL_build_881 : decode cL_build 881 = .ok (.iconst 0, 1) := by decide +kernel
theorem dL_build_882 : decode cL_build 882 = .ok (.istore 13, 2) := by decide +kernel
theorem dL_build_884 : decode cL_build 884 = .ok (.iload 13, 2) := by decide +kernel
theorem dL_build_886 : decode cL_build 886 = .ok (.iload 6, 2) := by decide +kernel
theorem dL_build_888 : decode cL_build 888 = .ok (.if_icmp .ge 21, 3) := by decide +kernel
theorem dL_build_891 : decode cL_build 891 = .ok (.aload 12, 2) := by decide +kernel
theorem dL_build_893 : decode cL_build 893 = .ok (.iload 13, 2) := by decide +kernel
theorem dL_build_895 : decode cL_build 895 = .ok (.aload_n 3, 1) := by decide +kernel
theorem dL_build_896 : decode cL_build 896 = .ok (.getfield 92, 3) := by decide +kernel
theorem dL_build_899 : decode cL_build 899 = .ok (.iload 13, 2) := by decide +kernel
theorem dL_build_901 : decode cL_build 901 = .ok (.aaload, 1) := by decide +kernel
theorem dL_build_902 : decode cL_build 902 = .ok (.aastore, 1) := by decide +kernel
theorem dL_build_903 : decode cL_build 903 = .ok (.iinc 13 1, 3) := by decide +kernel
theorem dL_build_906 : decode cL_build 906 = .ok (.goto (-22), 3) := by decide +kernel
theorem dL_build_909 : decode cL_build 909 = .ok (.aload 12, 2) := by decide +kernel
theorem dL_build_911 : decode cL_build 911 = .ok (.iload 6, 2) := by decide +kernel
theorem dL_build_913 : decode cL_build 913 = .ok (.aload 8, 2) := by decide +kernel
theorem dL_build_915 : decode cL_build 915 = .ok (.aastore, 1) := by decide +kernel
theorem dL_build_916 : decode cL_build 916 = .ok (.aload_n 3, 1) := by decide +kernel
theorem dL_build_917 : decode cL_build 917 = .ok (.aload 12, 2) := by decide +kernel
theorem dL_build_919 : decode cL_build 919 = .ok (.putfield 92, 3) := by decide +kernel
theorem dL_build_922 : decode cL_build 922 = .ok (.iinc 6 1, 3) := by decide +kernel
theorem dL_build_925 : decode cL_build 925 = .ok (.goto (-678), 3) := by decide +kernel
theorem dL_build_928 : decode cL_build 928 = .ok (.aload_n 3, 1) := by decide +kernel
theorem dL_build_929 : decode cL_build 929 = .ok (.areturn, 1) := by decide +kernel
theorem dL_law_0 : decode cL_law 0 = .ok (.new 23, 3) := by decide +kernel
theorem dL_law_3 : decode cL_law 3 = .ok (.dup, 1) := by decide +kernel
theorem dL_law_4 : decode cL_law 4 = .ok (.invokespecial 96, 3) := by decide +kernel
theorem dL_law_7 : decode cL_law 7 = .ok (.astore_n 1, 1) := by decide +kernel
theorem dL_law_8 : decode cL_law 8 = .ok (.aload_n 1, 1) := by decide +kernel
theorem dL_law_9 : decode cL_law 9 = .ok (.aload_n 0, 1) := by decide +kernel
theorem dL_law_10 : decode cL_law 10 = .ok (.sipush 30000, 3) := by decide +kernel
theorem dL_law_13 : decode cL_law 13 = .ok (.invokestatic 97, 3) := by decide +kernel
theorem dL_law_16 : decode cL_law 16 = .ok (.astore_n 2, 1) := by decide +kernel
theorem dL_law_17 : decode cL_law 17 = .ok (.aload_n 2, 1) := by decide +kernel
theorem dL_law_18 : decode cL_law 18 = .ok (.ifnonnull 5, 3) := by decide +kernel
theorem dL_law_21 : decode cL_law 21 = .ok (.iconst 0, 1) := by decide +kernel
theorem dL_law_22 : decode cL_law 22 = .ok (.ireturn, 1) := by decide +kernel
theorem dL_law_23 : decode cL_law 23 = .ok (.aload_n 2, 1) := by decide +kernel
theorem dL_law_24 : decode cL_law 24 = .ok (.getfield 31, 3) := by decide +kernel
theorem dL_law_27 : decode cL_law 27 = .ok (.arraylength, 1) := by decide +kernel
theorem dL_law_28 : decode cL_law 28 = .ok (.istore_n 3, 1) := by decide +kernel
theorem dL_law_29 : decode cL_law 29 = .ok (.aload_n 2, 1) := by decide +kernel
theorem dL_law_30 : decode cL_law 30 = .ok (.getfield 92, 3) := by decide +kernel
theorem dL_law_33 : decode cL_law 33 = .ok (.arraylength, 1) := by decide +kernel
theorem dL_law_34 : decode cL_law 34 = .ok (.istore 4, 2) := by decide +kernel
theorem dL_law_36 : decode cL_law 36 = .ok (.aload_n 1, 1) := by decide +kernel
theorem dL_law_37 : decode cL_law 37 = .ok (.iconst 5, 1) := by decide +kernel
theorem dL_law_38 : decode cL_law 38 = .ok (.invokevirtual 101, 3) := by decide +kernel
theorem dL_law_41 : decode cL_law 41 = .ok (.istore 5, 2) := by decide +kernel
theorem dL_law_43 : decode cL_law 43 = .ok (.iconst 0, 1) := by decide +kernel
theorem dL_law_44 : decode cL_law 44 = .ok (.istore 6, 2) := by decide +kernel
theorem dL_law_46 : decode cL_law 46 = .ok (.iconst 0, 1) := by decide +kernel
theorem dL_law_47 : decode cL_law 47 = .ok (.istore 7, 2) := by decide +kernel
theorem dL_law_49 : decode cL_law 49 = .ok (.iload 7, 2) := by decide +kernel
theorem dL_law_51 : decode cL_law 51 = .ok (.bipush 40, 2) := by decide +kernel
theorem dL_law_53 : decode cL_law 53 = .ok (.if_icmp .ge 765, 3) := by decide +kernel
theorem dL_law_56 : decode cL_law 56 = .ok (.iload_n 3, 1) := by decide +kernel
theorem dL_law_57 : decode cL_law 57 = .ok (.newarray .int, 2) := by decide +kernel
theorem dL_law_59 : decode cL_law 59 = .ok (.astore 8, 2) := by decide +kernel
theorem dL_law_61 : decode cL_law 61 = .ok (.iload_n 3, 1) := by decide +kernel
theorem dL_law_62 : decode cL_law 62 = .ok (.newarray .int, 2) := by decide +kernel
theorem dL_law_64 : decode cL_law 64 = .ok (.astore 9, 2) := by decide +kernel
theorem dL_law_66 : decode cL_law 66 = .ok (.iconst 0, 1) := by decide +kernel
theorem dL_law_67 : decode cL_law 67 = .ok (.istore 10, 2) := by decide +kernel
theorem dL_law_69 : decode cL_law 69 = .ok (.iload 10, 2) := by decide +kernel
theorem dL_law_71 : decode cL_law 71 = .ok (.iload_n 3, 1) := by decide +kernel
theorem dL_law_72 : decode cL_law 72 = .ok (.if_icmp .ge 21, 3) := by decide +kernel
theorem dL_law_75 : decode cL_law 75 = .ok (.aload 9, 2) := by decide +kernel
theorem dL_law_77 : decode cL_law 77 = .ok (.iload 10, 2) := by decide +kernel
theorem dL_law_79 : decode cL_law 79 = .ok (.aload_n 1, 1) := by decide +kernel
theorem dL_law_80 : decode cL_law 80 = .ok (.iload 10, 2) := by decide +kernel
theorem dL_law_82 : decode cL_law 82 = .ok (.iconst 2, 1) := by decide +kernel
theorem dL_law_83 : decode cL_law 83 = .ok (.invokevirtual 104, 3) := by decide +kernel
theorem dL_law_86 : decode cL_law 86 = .ok (.iastore, 1) := by decide +kernel
theorem dL_law_87 : decode cL_law 87 = .ok (.iinc 10 1, 3) := by decide +kernel
theorem dL_law_90 : decode cL_law 90 = .ok (.goto (-21), 3) := by decide +kernel
theorem dL_law_93 : decode cL_law 93 = .ok (.iload 4, 2) := by decide +kernel
theorem dL_law_95 : decode cL_law 95 = .ok (.newarray .long, 2) := by decide +kernel
theorem dL_law_97 : decode cL_law 97 = .ok (.astore 10, 2) := by decide +kernel
theorem dL_law_99 : decode cL_law 99 = .ok (.iconst 0, 1) := by decide +kernel
theorem dL_law_100 : decode cL_law 100 = .ok (.istore 11, 2) := by decide +kernel
theorem dL_law_102 : decode cL_law 102 = .ok (.iload 11, 2) := by decide +kernel
theorem dL_law_104 : decode cL_law 104 = .ok (.iload 4, 2) := by decide +kernel
theorem dL_law_106 : decode cL_law 106 = .ok (.if_icmp .ge 23, 3) := by decide +kernel
theorem dL_law_109 : decode cL_law 109 = .ok (.aload 10, 2) := by decide +kernel
theorem dL_law_111 : decode cL_law 111 = .ok (.iload 11, 2) := by decide +kernel
theorem dL_law_113 : decode cL_law 113 = .ok (.aload_n 1, 1) := by decide +kernel
theorem dL_law_114 : decode cL_law 114 = .ok (.iload 11, 2) := by decide +kernel
theorem dL_law_116 : decode cL_law 116 = .ok (.bipush 8, 2) := by decide +kernel
theorem dL_law_118 : decode cL_law 118 = .ok (.invokevirtual 106, 3) := by decide +kernel
theorem dL_law_121 : decode cL_law 121 = .ok (.i2l, 1) := by decide +kernel
theorem dL_law_122 : decode cL_law 122 = .ok (.lastore, 1) := by decide +kernel
theorem dL_law_123 : decode cL_law 123 = .ok (.iinc 11 1, 3) := by decide +kernel
theorem dL_law_126 : decode cL_law 126 = .ok (.goto (-24), 3) := by decide +kernel
theorem dL_law_129 : decode cL_law 129 = .ok (.aload_n 0, 1) := by decide +kernel
theorem dL_law_130 : decode cL_law 130 = .ok (.iload 7, 2) := by decide +kernel
theorem dL_law_132 : decode cL_law 132 = .ok (.bipush 16, 2) := by decide +kernel
theorem dL_law_134 : decode cL_law 134 = .ok (.irem, 1) := by decide +kernel
theorem dL_law_135 : decode cL_law 135 = .ok (.invokestatic 12, 3) := by decide +kernel
theorem dL_law_138 : decode cL_law 138 = .ok (.iload 7, 2) := by decide +kernel
theorem dL_law_140 : decode cL_law 140 = .ok (.bipush 16, 2) := by decide +kernel
theorem dL_law_142 : decode cL_law 142 = .ok (.idiv, 1) := by decide +kernel
theorem dL_law_143 : decode cL_law 143 = .ok (.ishr, 1) := by decide +kernel
theorem dL_law_144 : decode cL_law 144 = .ok (.iconst 5, 1) := by decide +kernel
theorem dL_law_145 : decode cL_law 145 = .ok (.invokestatic 18, 3) := by decide +kernel
theorem dL_law_148 : decode cL_law 148 = .ok (.ifCond .ne 88, 3) := by decide +kernel
theorem dL_law_151 : decode cL_law 151 = .ok (.aload_n 0, 1) := by decide +kernel
theorem dL_law_152 : decode cL_law 152 = .ok (.iload 7, 2) := by decide +kernel
theorem dL_law_154 : decode cL_law 154 = .ok (.bipush 16, 2) := by decide +kernel
theorem dL_law_156 : decode cL_law 156 = .ok (.irem, 1) := by decide +kernel
theorem dL_law_157 : decode cL_law 157 = .ok (.invokestatic 12, 3) := by decide +kernel
theorem dL_law_160 : decode cL_law 160 = .ok (.iconst 3, 1) := by decide +kernel
theorem dL_law_161 : decode cL_law 161 = .ok (.ishr, 1) := by decide +kernel
theorem dL_law_162 : decode cL_law 162 = .ok (.iload_n 3, 1) := by decide +kernel
theorem dL_law_163 : decode cL_law 163 = .ok (.invokestatic 18, 3) := by decide +kernel
theorem dL_law_166 : decode cL_law 166 = .ok (.istore 11, 2) := by decide +kernel
theorem dL_law_168 : decode cL_law 168 = .ok (.aload_n 1, 1) := by decide +kernel
theorem dL_law_169 : decode cL_law 169 = .ok (.iload 11, 2) := by decide +kernel
theorem dL_law_171 : decode cL_law 171 = .ok (.iconst 1, 1) := by decide +kernel
theorem dL_law_172 : decode cL_law 172 = .ok (.invokevirtual 104, 3) := by decide +kernel
theorem dL_law_175 : decode cL_law 175 = .ok (.istore 12, 2) := by decide +kernel
theorem dL_law_177 : decode cL_law 177 = .ok (.iconst 1, 1) := by decide +kernel
theorem dL_law_178 : decode cL_law 178 = .ok (.aload_n 0, 1) := by decide +kernel
theorem dL_law_179 : decode cL_law 179 = .ok (.iload 7, 2) := by decide +kernel
theorem dL_law_181 : decode cL_law 181 = .ok (.bipush 16, 2) := by decide +kernel
theorem dL_law_183 : decode cL_law 183 = .ok (.irem, 1) := by decide +kernel
theorem dL_law_184 : decode cL_law 184 = .ok (.invokestatic 12, 3) := by decide +kernel
theorem dL_law_187 : decode cL_law 187 = .ok (.iconst 5, 1) := by decide +kernel
theorem dL_law_188 : decode cL_law 188 = .ok (.ishr, 1) := by decide +kernel
theorem dL_law_189 : decode cL_law 189 = .ok (.sipush 5000, 3) := by decide +kernel
theorem dL_law_192 : decode cL_law 192 = .ok (.invokestatic 18, 3) := by decide +kernel
theorem dL_law_195 : decode cL_law 195 = .ok (.iadd, 1) := by decide +kernel
theorem dL_law_196 : decode cL_law 196 = .ok (.istore 13, 2) := by decide +kernel
theorem dL_law_198 : decode cL_law 198 = .ok (.aload_n 1, 1) := by decide +kernel
theorem dL_law_199 : decode cL_law 199 = .ok (.iload 11, 2) := by decide +kernel
theorem dL_law_201 : decode cL_law 201 = .ok (.iload 13, 2) := by decide +kernel
theorem dL_law_203 : decode cL_law 203 = .ok (.invokevirtual 28, 3) := by decide +kernel
theorem dL_law_206 : decode cL_law 206 = .ok (.ldc 109, 2) := by decide +kernel
theorem dL_law_208 : decode cL_law 208 = .ok (.iload 12, 2) := by decide +kernel
theorem dL_law_210 : decode cL_law 210 = .ok (.iload 13, 2) := by decide +kernel
theorem dL_law_212 : decode cL_law 212 = .ok (.iadd, 1) := by decide +kernel
theorem dL_law_213 : decode cL_law 213 = .ok (.invokestatic 110, 3) := by decide +kernel
theorem dL_law_216 : decode cL_law 216 = .ok (.if_icmp .eq 5, 3) := by decide +kernel
theorem dL_law_219 : decode cL_law 219 = .ok (.iconst 0, 1) := by decide +kernel
theorem dL_law_220 : decode cL_law 220 = .ok (.ireturn, 1) := by decide +kernel
theorem dL_law_221 : decode cL_law 221 = .ok (.iload 5, 2) := by decide +kernel
theorem dL_law_223 : decode cL_law 223 = .ok (.aload_n 1, 1) := by decide +kernel
theorem dL_law_224 : decode cL_law 224 = .ok (.iload 11, 2) := by decide +kernel
theorem dL_law_226 : decode cL_law 226 = .ok (.iconst 1, 1) := by decide +kernel
theorem dL_law_227 : decode cL_law 227 = .ok (.invokevirtual 104, 3) := by decide +kernel
theorem dL_law_230 : decode cL_law 230 = .ok (.iload 12, 2) := by decide +kernel
theorem dL_law_232 : decode cL_law 232 = .ok (.isub, 1) := by decide +kernel
theorem dL_law_233 : decode cL_law 233 = .ok (.iadd, 1) := by decide +kernel
theorem dL_law_234 : decode cL_law 234 = .ok (.istore 5, 2) := by decide +kernel
theorem dL_law_236 : decode cL_law 236 = .ok (.aload_n 1, 1) := by decide +kernel
theorem dL_law_237 : decode cL_law 237 = .ok (.iconst 1, 1) := by decide +kernel
theorem dL_law_238 : decode cL_law 238 = .ok (.invokevirtual 115, 3) := by decide +kernel
theorem dL_law_241 : decode cL_law 241 = .ok (.istore 11, 2) := by decide +kernel
theorem dL_law_243 : decode cL_law 243 = .ok (.iload 6, 2) := by decide +kernel
theorem dL_law_245 : decode cL_law 245 = .ok (.iload 11, 2) := by decide +kernel
theorem dL_law_247 : decode cL_law 247 = .ok (.iadd, 1) := by decide +kernel
theorem dL_law_248 : decode cL_law 248 = .ok (.istore 6, 2) := by decide +kernel
theorem dL_law_250 : decode cL_law 250 = .ok (.iconst 0, 1) := by decide +kernel
theorem dL_law_251 : decode cL_law 251 = .ok (.istore 12, 2) := by decide +kernel
theorem dL_law_253 : decode cL_law 253 = .ok (.iconst 0, 1) := by decide +kernel
theorem dL_law_254 : decode cL_law 254 = .ok (.istore 13, 2) := by decide +kernel
theorem dL_law_256 : decode cL_law 256 = .ok (.iconst 0, 1) := by decide +kernel
theorem dL_law_257 : decode cL_law 257 = .ok (.istore 14, 2) := by decide +kernel
theorem dL_law_259 : decode cL_law 259 = .ok (.iload 14, 2) := by decide +kernel
theorem dL_law_261 : decode cL_law 261 = .ok (.iload_n 3, 1) := by decide +kernel
theorem dL_law_262 : decode cL_law 262 = .ok (.if_icmp .ge 129, 3) := by decide +kernel
theorem dL_law_265 : decode cL_law 265 = .ok (.aload 8, 2) := by decide +kernel
theorem dL_law_267 : decode cL_law 267 = .ok (.iload 14, 2) := by decide +kernel
theorem dL_law_269 : decode cL_law 269 = .ok (.aload_n 1, 1) := by decide +kernel
theorem dL_law_270 : decode cL_law 270 = .ok (.iload 14, 2) := by decide +kernel
theorem dL_law_272 : decode cL_law 272 = .ok (.iconst 1, 1) := by decide +kernel
theorem dL_law_273 : decode cL_law 273 = .ok (.invokevirtual 104, 3) := by decide +kernel
theorem dL_law_276 : decode cL_law 276 = .ok (.iastore, 1) := by decide +kernel
theorem dL_law_277 : decode cL_law 277 = .ok (.aload_n 1, 1) := by decide +kernel
theorem dL_law_278 : decode cL_law 278 = .ok (.iload 14, 2) := by decide +kernel
theorem dL_law_280 : decode cL_law 280 = .ok (.iconst 3, 1) := by decide +kernel
theorem dL_law_281 : decode cL_law 281 = .ok (.invokevirtual 104, 3) := by decide +kernel
theorem dL_law_284 : decode cL_law 284 = .ok (.istore 15, 2) := by decide +kernel
theorem dL_law_286 : decode cL_law 286 = .ok (.aload 8, 2) := by decide +kernel
theorem dL_law_288 : decode cL_law 288 = .ok (.iload 14, 2) := by decide +kernel
theorem dL_law_290 : decode cL_law 290 = .ok (.iaload, 1) := by decide +kernel
theorem dL_law_291 : decode cL_law 291 = .ok (.ifCond .lt 70, 3) := by decide +kernel
theorem dL_law_294 : decode cL_law 294 = .ok (.aload 8, 2) := by decide +kernel
theorem dL_law_296 : decode cL_law 296 = .ok (.iload 14, 2) := by decide +kernel
theorem dL_law_298 : decode cL_law 298 = .ok (.iaload, 1) := by decide +kernel
theorem dL_law_299 : decode cL_law 299 = .ok (.ldc 109, 2) := by decide +kernel
theorem dL_law_301 : decode cL_law 301 = .ok (.if_icmp .gt 60, 3) := by decide +kernel
theorem dL_law_304 : decode cL_law 304 = .ok (.iload 15, 2) := by decide +kernel
theorem dL_law_306 : decode cL_law 306 = .ok (.ifCond .lt 55, 3) := by decide +kernel
theorem dL_law_309 : decode cL_law 309 = .ok (.iload 15, 2) := by decide +kernel
theorem dL_law_311 : decode cL_law 311 = .ok (.sipush 400, 3) := by decide +kernel
theorem dL_law_314 : decode cL_law 314 = .ok (.if_icmp .gt 47, 3) := by decide +kernel
theorem dL_law_317 : decode cL_law 317 = .ok (.aload_n 1, 1) := by decide +kernel
theorem dL_law_318 : decode cL_law 318 = .ok (.iload 14, 2) := by decide +kernel
theorem dL_law_320 : decode cL_law 320 = .ok (.iconst 2, 1) := by decide +kernel
theorem dL_law_321 : decode cL_law 321 = .ok (.invokevirtual 104, 3) := by decide +kernel
theorem dL_law_324 : decode cL_law 324 = .ok (.aload 9, 2) := by decide +kernel
theorem dL_law_326 : decode cL_law 326 = .ok (.iload 14, 2) := by decide +kernel
theorem dL_law_328 : decode cL_law 328 = .ok (.iaload, 1) := by decide +kernel
theorem dL_law_329 : decode cL_law 329 = .ok (.iload 15, 2) := by decide +kernel
theorem dL_law_331 : decode cL_law 331 = .ok (.iadd, 1) := by decide +kernel
theorem dL_law_332 : decode cL_law 332 = .ok (.if_icmp .ne 29, 3) := by decide +kernel
theorem dL_law_335 : decode cL_law 335 = .ok (.aload_n 1, 1) := by decide +kernel
theorem dL_law_336 : decode cL_law 336 = .ok (.iload 14, 2) := by decide +kernel
theorem dL_law_338 : decode cL_law 338 = .ok (.bipush 6, 2) := by decide +kernel
theorem dL_law_340 : decode cL_law 340 = .ok (.invokevirtual 104, 3) := by decide +kernel
theorem dL_law_343 : decode cL_law 343 = .ok (.bipush 10, 2) := by decide +kernel
theorem dL_law_345 : decode cL_law 345 = .ok (.if_icmp .lt 16, 3) := by decide +kernel
theorem dL_law_348 : decode cL_law 348 = .ok (.iload 15, 2) := by decide +kernel
theorem dL_law_350 : decode cL_law 350 = .ok (.ifCond .ne 13, 3) := by decide +kernel
theorem dL_law_353 : decode cL_law 353 = .ok (.aload 8, 2) := by decide +kernel
theorem dL_law_355 : decode cL_law 355 = .ok (.iload 14, 2) := by decide +kernel
theorem dL_law_357 : decode cL_law 357 = .ok (.iaload, 1) := by decide +kernel
theorem dL_law_358 : decode cL_law 358 = .ok (.ifCond .le 5, 3) := by decide +kernel
theorem dL_law_361 : decode cL_law 361 = .ok (.iconst 0, 1) := by decide +kernel
theorem dL_law_362 : decode cL_law 362 = .ok (.ireturn, 1) := by decide +kernel
theorem dL_law_363 : decode cL_law 363 = .ok (.iload 12, 2) := by decide +kernel
theorem dL_law_365 : decode cL_law 365 = .ok (.aload 8, 2) := by decide +kernel
theorem dL_law_367 : decode cL_law 367 = .ok (.iload 14, 2) := by decide +kernel
theorem dL_law_369 : decode cL_law 369 = .ok (.iaload, 1) := by decide +kernel
theorem dL_law_370 : decode cL_law 370 = .ok (.iadd, 1) := by decide +kernel
theorem dL_law_371 : decode cL_law 371 = .ok (.istore 12, 2) := by decide +kernel
theorem dL_law_373 : decode cL_law 373 = .ok (.iload 13, 2) := by decide +kernel
theorem dL_law_375 : decode cL_law 375 = .ok (.aload_n 1, 1) := by decide +kernel
theorem dL_law_376 : decode cL_law 376 = .ok (.iload 14, 2) := by decide +kernel
theorem dL_law_378 : decode cL_law 378 = .ok (.iconst 2, 1) := by decide +kernel
theorem dL_law_379 : decode cL_law 379 = .ok (.invokevirtual 104, 3) := by decide +kernel
theorem dL_law_382 : decode cL_law 382 = .ok (.iadd, 1) := by decide +kernel
theorem dL_law_383 : decode cL_law 383 = .ok (.istore 13, 2) := by decide +kernel
theorem dL_law_385 : decode cL_law 385 = .ok (.iinc 14 1, 3) := by decide +kernel
theorem dL_law_388 : decode cL_law 388 = .ok (.goto (-129), 3) := by decide +kernel
theorem dL_law_391 : decode cL_law 391 = .ok (.iload 12, 2) := by decide +kernel
theorem dL_law_393 : decode cL_law 393 = .ok (.aload_n 1, 1) := by decide +kernel
theorem dL_law_394 : decode cL_law 394 = .ok (.iconst 5, 1) := by decide +kernel
theorem dL_law_395 : decode cL_law 395 = .ok (.invokevirtual 101, 3) := by decide +kernel
theorem dL_law_398 : decode cL_law 398 = .ok (.if_icmp .ne 52, 3) := by decide +kernel
theorem dL_law_401 : decode cL_law 401 = .ok (.iload 5, 2) := by decide +kernel
theorem dL_law_403 : decode cL_law 403 = .ok (.iload 12, 2) := by decide +kernel
theorem dL_law_405 : decode cL_law 405 = .ok (.isub, 1) := by decide +kernel
theorem dL_law_406 : decode cL_law 406 = .ok (.iload 13, 2) := by decide +kernel
theorem dL_law_408 : decode cL_law 408 = .ok (.isub, 1) := by decide +kernel
theorem dL_law_409 : decode cL_law 409 = .ok (.ifCond .lt 41, 3) := by decide +kernel
theorem dL_law_412 : decode cL_law 412 = .ok (.iload 5, 2) := by decide +kernel
theorem dL_law_414 : decode cL_law 414 = .ok (.iload 12, 2) := by decide +kernel
theorem dL_law_416 : decode cL_law 416 = .ok (.isub, 1) := by decide +kernel
theorem dL_law_417 : decode cL_law 417 = .ok (.iload 13, 2) := by decide +kernel
theorem dL_law_419 : decode cL_law 419 = .ok (.isub, 1) := by decide +kernel
theorem dL_law_420 : decode cL_law 420 = .ok (.bipush 10, 2) := by decide +kernel
theorem dL_law_422 : decode cL_law 422 = .ok (.iload 6, 2) := by decide +kernel
theorem dL_law_424 : decode cL_law 424 = .ok (.imul, 1) := by decide +kernel
theorem dL_law_425 : decode cL_law 425 = .ok (.if_icmp .gt 25, 3) := by decide +kernel
theorem dL_law_428 : decode cL_law 428 = .ok (.aload_n 1, 1) := by decide +kernel
theorem dL_law_429 : decode cL_law 429 = .ok (.iconst 0, 1) := by decide +kernel
theorem dL_law_430 : decode cL_law 430 = .ok (.invokevirtual 101, 3) := by decide +kernel
theorem dL_law_433 : decode cL_law 433 = .ok (.iload 7, 2) := by decide +kernel
theorem dL_law_435 : decode cL_law 435 = .ok (.iconst 1, 1) := by decide +kernel
theorem dL_law_436 : decode cL_law 436 = .ok (.iadd, 1) := by decide +kernel
theorem dL_law_437 : decode cL_law 437 = .ok (.if_icmp .ne 13, 3) := by decide +kernel
theorem dL_law_440 : decode cL_law 440 = .ok (.aload_n 1, 1) := by decide +kernel
theorem dL_law_441 : decode cL_law 441 = .ok (.iconst 4, 1) := by decide +kernel
theorem dL_law_442 : decode cL_law 442 = .ok (.invokevirtual 101, 3) := by decide +kernel
theorem dL_law_445 : decode cL_law 445 = .ok (.iload 6, 2) := by decide +kernel
theorem dL_law_447 : decode cL_law 447 = .ok (.if_icmp .eq 5, 3) := by decide +kernel
theorem dL_law_450 : decode cL_law 450 = .ok (.iconst 0, 1) := by decide +kernel
theorem dL_law_451 : decode cL_law 451 = .ok (.ireturn, 1) := by decide +kernel
theorem dL_law_452 : decode cL_law 452 = .ok (.iconst 0, 1) := by decide +kernel
theorem dL_law_453 : decode cL_law 453 = .ok (.istore 14, 2) := by decide +kernel
theorem dL_law_455 : decode cL_law 455 = .ok (.iconst 0, 1) := by decide +kernel
theorem dL_law_456 : decode cL_law 456 = .ok (.istore 15, 2) := by decide +kernel
theorem dL_law_458 : decode cL_law 458 = .ok (.iload 15, 2) := by decide +kernel
theorem dL_law_460 : decode cL_law 460 = .ok (.iload 4, 2) := by decide +kernel
theorem dL_law_462 : decode cL_law 462 = .ok (.if_icmp .ge 293, 3) := by decide +kernel
theorem dL_law_465 : decode cL_law 465 = .ok (.aload_n 1, 1) := by decide +kernel
theorem dL_law_466 : decode cL_law 466 = .ok (.iload 15, 2) := by decide +kernel
theorem dL_law_468 : decode cL_law 468 = .ok (.iconst 0, 1) := by decide +kernel
theorem dL_law_469 : decode cL_law 469 = .ok (.invokevirtual 106, 3) := by decide +kernel
theorem dL_law_472 : decode cL_law 472 = .ok (.istore 16, 2) := by decide +kernel
theorem dL_law_474 : decode cL_law 474 = .ok (.aload_n 1, 1) := by decide +kernel
theorem dL_law_475 : decode cL_law 475 = .ok (.iload 16, 2) := by decide +kernel
theorem dL_law_477 : decode cL_law 477 = .ok (.iconst 2, 1) := by decide +kernel
theorem dL_law_478 : decode cL_law 478 = .ok (.invokevirtual 104, 3) := by decide +kernel
theorem dL_law_481 : decode cL_law 481 = .ok (.i2l, 1) := by decide +kernel
theorem dL_law_482 : decode cL_law 482 = .ok (.aload_n 1, 1) := by decide +kernel
theorem dL_law_483 : decode cL_law 483 = .ok (.iload 15, 2) := by decide +kernel
theorem dL_law_485 : decode cL_law 485 = .ok (.iconst 3, 1) := by decide +kernel
theorem dL_law_486 : decode cL_law 486 = .ok (.invokevirtual 106, 3) := by decide +kernel
theorem dL_law_489 : decode cL_law 489 = .ok (.i2l, 1) := by decide +kernel
theorem dL_law_490 : decode cL_law 490 = .ok (.lmul, 1) := by decide +kernel
theorem dL_law_491 : decode cL_law 491 = .ok (.aload_n 1, 1) := by decide +kernel
theorem dL_law_492 : decode cL_law 492 = .ok (.iload 15, 2) := by decide +kernel
theorem dL_law_494 : decode cL_law 494 = .ok (.iconst 2, 1) := by decide +kernel
theorem dL_law_495 : decode cL_law 495 = .ok (.invokevirtual 106, 3) := by decide +kernel
theorem dL_law_498 : decode cL_law 498 = .ok (.i2l, 1) := by decide +kernel
theorem dL_law_499 : decode cL_law 499 = .ok (.lmul, 1) := by decide +kernel
theorem dL_law_500 : decode cL_law 500 = .ok (.ldc2_w 118, 3) := by decide +kernel
theorem dL_law_503 : decode cL_law 503 = .ok (.aload_n 1, 1) := by decide +kernel
theorem dL_law_504 : decode cL_law 504 = .ok (.iload 15, 2) := by decide +kernel
theorem dL_law_506 : decode cL_law 506 = .ok (.iconst 4, 1) := by decide +kernel
theorem dL_law_507 : decode cL_law 507 = .ok (.invokevirtual 106, 3) := by decide +kernel
theorem dL_law_510 : decode cL_law 510 = .ok (.i2l, 1) := by decide +kernel
theorem dL_law_511 : decode cL_law 511 = .ok (.lmul, 1) := by decide +kernel
theorem dL_law_512 : decode cL_law 512 = .ok (.ldiv, 1) := by decide +kernel
theorem dL_law_513 : decode cL_law 513 = .ok (.lstore 17, 2) := by decide +kernel
theorem dL_law_515 : decode cL_law 515 = .ok (.aload_n 1, 1) := by decide +kernel
theorem dL_law_516 : decode cL_law 516 = .ok (.iload 15, 2) := by decide +kernel
theorem dL_law_518 : decode cL_law 518 = .ok (.bipush 8, 2) := by decide +kernel
theorem dL_law_520 : decode cL_law 520 = .ok (.invokevirtual 106, 3) := by decide +kernel
theorem dL_law_523 : decode cL_law 523 = .ok (.i2l, 1) := by decide +kernel
theorem dL_law_524 : decode cL_law 524 = .ok (.lload 17, 2) := by decide +kernel
theorem dL_law_526 : decode cL_law 526 = .ok (.lcmp, 1) := by decide +kernel
theorem dL_law_527 : decode cL_law 527 = .ok (.ifCond .ne 37, 3) := by decide +kernel
theorem dL_law_530 : decode cL_law 530 = .ok (.aload_n 1, 1) := by decide +kernel
theorem dL_law_531 : decode cL_law 531 = .ok (.iload 15, 2) := by decide +kernel
theorem dL_law_533 : decode cL_law 533 = .ok (.iconst 5, 1) := by decide +kernel
theorem dL_law_534 : decode cL_law 534 = .ok (.invokevirtual 106, 3) := by decide +kernel
theorem dL_law_537 : decode cL_law 537 = .ok (.i2l, 1) := by decide +kernel
theorem dL_law_538 : decode cL_law 538 = .ok (.lload 17, 2) := by decide +kernel
theorem dL_law_540 : decode cL_law 540 = .ok (.aload_n 1, 1) := by decide +kernel
theorem dL_law_541 : decode cL_law 541 = .ok (.iload 15, 2) := by decide +kernel
theorem dL_law_543 : decode cL_law 543 = .ok (.iconst 2, 1) := by decide +kernel
theorem dL_law_544 : decode cL_law 544 = .ok (.invokevirtual 106, 3) := by decide +kernel
theorem dL_law_547 : decode cL_law 547 = .ok (.i2l, 1) := by decide +kernel
theorem dL_law_548 : decode cL_law 548 = .ok (.lrem, 1) := by decide +kernel
theorem dL_law_549 : decode cL_law 549 = .ok (.lcmp, 1) := by decide +kernel
theorem dL_law_550 : decode cL_law 550 = .ok (.ifCond .ne 14, 3) := by decide +kernel
theorem dL_law_553 : decode cL_law 553 = .ok (.lload 17, 2) := by decide +kernel
theorem dL_law_555 : decode cL_law 555 = .ok (.aload 10, 2) := by decide +kernel
theorem dL_law_557 : decode cL_law 557 = .ok (.iload 15, 2) := by decide +kernel
theorem dL_law_559 : decode cL_law 559 = .ok (.laload, 1) := by decide +kernel
theorem dL_law_560 : decode cL_law 560 = .ok (.lcmp, 1) := by decide +kernel
theorem dL_law_561 : decode cL_law 561 = .ok (.ifCond .ge 5, 3) := by decide +kernel
theorem dL_law_564 : decode cL_law 564 = .ok (.iconst 0, 1) := by decide +kernel
theorem dL_law_565 : decode cL_law 565 = .ok (.ireturn, 1) := by decide +kernel
theorem dL_law_566 : decode cL_law 566 = .ok (.iload 14, 2) := by decide +kernel
theorem dL_law_568 : decode cL_law 568 = .ok (.aload_n 1, 1) := by decide +kernel
theorem dL_law_569 : decode cL_law 569 = .ok (.iload 15, 2) := by decide +kernel
theorem dL_law_571 : decode cL_law 571 = .ok (.bipush 9, 2) := by decide +kernel
theorem dL_law_573 : decode cL_law 573 = .ok (.invokevirtual 106, 3) := by decide +kernel
theorem dL_law_576 : decode cL_law 576 = .ok (.iadd, 1) := by decide +kernel
theorem dL_law_577 : decode cL_law 577 = .ok (.istore 14, 2) := by decide +kernel
theorem dL_law_579 : decode cL_law 579 = .ok (.iconst 0, 1) := by decide +kernel
theorem dL_law_580 : decode cL_law 580 = .ok (.istore 19, 2) := by decide +kernel
theorem dL_law_582 : decode cL_law 582 = .ok (.iload 19, 2) := by decide +kernel
theorem dL_law_584 : decode cL_law 584 = .ok (.iconst 3, 1) := by decide +kernel
theorem dL_law_585 : decode cL_law 585 = .ok (.if_icmp .ge 164, 3) := by decide +kernel
theorem dL_law_588 : decode cL_law 588 = .ok (.bipush 100, 2) := by decide +kernel
theorem dL_law_590 : decode cL_law 590 = .ok (.istore 20, 2) := by decide +kernel
theorem dL_law_592 : decode cL_law 592 = .ok (.iconst 0, 1) := by decide +kernel
theorem dL_law_593 : decode cL_law 593 = .ok (.istore 21, 2) := by decide +kernel
theorem dL_law_595 : decode cL_law 595 = .ok (.iconst 0, 1) := by decide +kernel
theorem dL_law_596 : decode cL_law 596 = .ok (.istore 22, 2) := by decide +kernel
theorem dL_law_598 : decode cL_law 598 = .ok (.iload 22, 2) := by decide +kernel
theorem dL_law_600 : decode cL_law 600 = .ok (.aload_n 1, 1) := by decide +kernel
theorem dL_law_601 : decode cL_law 601 = .ok (.iload 15, 2) := by decide +kernel
theorem dL_law_603 : decode cL_law 603 = .ok (.iconst 2, 1) := by decide +kernel
theorem dL_law_604 : decode cL_law 604 = .ok (.invokevirtual 106, 3) := by decide +kernel
theorem dL_law_607 : decode cL_law 607 = .ok (.if_icmp .ge 43, 3) := by decide +kernel
theorem dL_law_610 : decode cL_law 610 = .ok (.iload 20, 2) := by decide +kernel
theorem dL_law_612 : decode cL_law 612 = .ok (.aload_n 1, 1) := by decide +kernel
theorem dL_law_613 : decode cL_law 613 = .ok (.iload 15, 2) := by decide +kernel
theorem dL_law_615 : decode cL_law 615 = .ok (.iload 19, 2) := by decide +kernel
theorem dL_law_617 : decode cL_law 617 = .ok (.iload 22, 2) := by decide +kernel
theorem dL_law_619 : decode cL_law 619 = .ok (.invokevirtual 120, 3) := by decide +kernel
theorem dL_law_622 : decode cL_law 622 = .ok (.invokestatic 110, 3) := by decide +kernel
theorem dL_law_625 : decode cL_law 625 = .ok (.istore 20, 2) := by decide +kernel
theorem dL_law_627 : decode cL_law 627 = .ok (.iload 21, 2) := by decide +kernel
theorem dL_law_629 : decode cL_law 629 = .ok (.aload_n 1, 1) := by decide +kernel
theorem dL_law_630 : decode cL_law 630 = .ok (.iload 15, 2) := by decide +kernel
theorem dL_law_632 : decode cL_law 632 = .ok (.iload 19, 2) := by decide +kernel
theorem dL_law_634 : decode cL_law 634 = .ok (.iload 22, 2) := by decide +kernel
theorem dL_law_636 : decode cL_law 636 = .ok (.invokevirtual 120, 3) := by decide +kernel
theorem dL_law_639 : decode cL_law 639 = .ok (.invokestatic 123, 3) := by decide +kernel
theorem dL_law_642 : decode cL_law 642 = .ok (.istore 21, 2) := by decide +kernel
theorem dL_law_644 : decode cL_law 644 = .ok (.iinc 22 1, 3) := by decide +kernel
theorem dL_law_647 : decode cL_law 647 = .ok (.goto (-49), 3) := by decide +kernel
theorem dL_law_650 : decode cL_law 650 = .ok (.aload_n 1, 1) := by decide +kernel
theorem dL_law_651 : decode cL_law 651 = .ok (.iload 15, 2) := by decide +kernel
theorem dL_law_653 : decode cL_law 653 = .ok (.iload 19, 2) := by decide +kernel
theorem dL_law_655 : decode cL_law 655 = .ok (.iconst (-1), 1) := by decide +kernel
theorem dL_law_656 : decode cL_law 656 = .ok (.invokevirtual 120, 3) := by decide +kernel
theorem dL_law_659 : decode cL_law 659 = .ok (.iload 20, 2) := by decide +kernel
theorem dL_law_661 : decode cL_law 661 = .ok (.if_icmp .lt 17, 3) := by decide +kernel
theorem dL_law_664 : decode cL_law 664 = .ok (.aload_n 1, 1) := by decide +kernel
theorem dL_law_665 : decode cL_law 665 = .ok (.iload 15, 2) := by decide +kernel
theorem dL_law_667 : decode cL_law 667 = .ok (.iload 19, 2) := by decide +kernel
theorem dL_law_669 : decode cL_law 669 = .ok (.iconst (-1), 1) := by decide +kernel
theorem dL_law_670 : decode cL_law 670 = .ok (.invokevirtual 120, 3) := by decide +kernel
theorem dL_law_673 : decode cL_law 673 = .ok (.iload 21, 2) := by decide +kernel
theorem dL_law_675 : decode cL_law 675 = .ok (.if_icmp .le 5, 3) := by decide +kernel
theorem dL_law_678 : decode cL_law 678 = .ok (.iconst 0, 1) := by decide +kernel
theorem dL_law_679 : decode cL_law 679 = .ok (.ireturn, 1) := by decide +kernel
theorem dL_law_680 : decode cL_law 680 = .ok (.aload_n 2, 1) := by decide +kernel
theorem dL_law_681 : decode cL_law 681 = .ok (.getfield 92, 3) := by decide +kernel
theorem dL_law_684 : decode cL_law 684 = .ok (.iload 15, 2) := by decide +kernel
theorem dL_law_686 : decode cL_law 686 = .ok (.aaload, 1) := by decide +kernel
theorem dL_law_687 : decode cL_law 687 = .ok (.getfield 77, 3) := by decide +kernel
theorem dL_law_690 : decode cL_law 690 = .ok (.iload 19, 2) := by decide +kernel
theorem dL_law_692 : decode cL_law 692 = .ok (.aaload, 1) := by decide +kernel
theorem dL_law_693 : decode cL_law 693 = .ok (.astore 22, 2) := by decide +kernel
theorem dL_law_695 : decode cL_law 695 = .ok (.aload 22, 2) := by decide +kernel
theorem dL_law_697 : decode cL_law 697 = .ok (.arraylength, 1) := by decide +kernel
theorem dL_law_698 : decode cL_law 698 = .ok (.istore 23, 2) := by decide +kernel
theorem dL_law_700 : decode cL_law 700 = .ok (.iconst 0, 1) := by decide +kernel
theorem dL_law_701 : decode cL_law 701 = .ok (.istore 24, 2) := by decide +kernel
theorem dL_law_703 : decode cL_law 703 = .ok (.iload 24, 2) := by decide +kernel
theorem dL_law_705 : decode cL_law 705 = .ok (.iload 23, 2) := by decide +kernel
theorem dL_law_707 : decode cL_law 707 = .ok (.if_icmp .ge 36, 3) := by decide +kernel
theorem dL_law_710 : decode cL_law 710 = .ok (.aload 22, 2) := by decide +kernel
theorem dL_law_712 : decode cL_law 712 = .ok (.iload 24, 2) := by decide +kernel
theorem dL_law_714 : decode cL_law 714 = .ok (.aaload, 1) := by decide +kernel
theorem dL_law_715 : decode cL_law 715 = .ok (.astore 25, 2) := by decide +kernel
theorem dL_law_717 : decode cL_law 717 = .ok (.aload 25, 2) := by decide +kernel
theorem dL_law_719 : decode cL_law 719 = .ok (.iconst 1, 1) := by decide +kernel
theorem dL_law_720 : decode cL_law 720 = .ok (.iaload, 1) := by decide +kernel
theorem dL_law_721 : decode cL_law 721 = .ok (.iload 20, 2) := by decide +kernel
theorem dL_law_723 : decode cL_law 723 = .ok (.if_icmp .lt 12, 3) := by decide +kernel
theorem dL_law_726 : decode cL_law 726 = .ok (.aload 25, 2) := by decide +kernel
theorem dL_law_728 : decode cL_law 728 = .ok (.iconst 1, 1) := by decide +kernel
theorem dL_law_729 : decode cL_law 729 = .ok (.iaload, 1) := by decide +kernel
theorem dL_law_730 : decode cL_law 730 = .ok (.iload 21, 2) := by decide +kernel
theorem dL_law_732 : decode cL_law 732 = .ok (.if_icmp .le 5, 3) := by decide +kernel
theorem dL_law_735 : decode cL_law 735 = .ok (.iconst 0, 1) := by decide +kernel
theorem dL_law_736 : decode cL_law 736 = .ok (.ireturn, 1) := by decide +kernel
theorem dL_law_737 : decode cL_law 737 = .ok (.iinc 24 1, 3) := by decide +kernel
theorem dL_law_740 : decode cL_law 740 = .ok (.goto (-37), 3) := by decide +kernel
theorem dL_law_743 : decode cL_law 743 = .ok (.iinc 19 1, 3) := by decide +kernel
theorem dL_law_746 : decode cL_law 746 = .ok (.goto (-164), 3) := by decide +kernel
theorem dL_law_749 : decode cL_law 749 = .ok (.iinc 15 1, 3) := by decide +kernel
theorem dL_law_752 : decode cL_law 752 = .ok (.goto (-294), 3) := by decide +kernel
theorem dL_law_755 : decode cL_law 755 = .ok (.aload_n 1, 1) := by decide +kernel
theorem dL_law_756 : decode cL_law 756 = .ok (.iload 7, 2) := by decide +kernel
theorem dL_law_758 : decode cL_law 758 = .ok (.iconst 1, 1) := by decide +kernel
theorem dL_law_759 : decode cL_law 759 = .ok (.iadd, 1) := by decide +kernel
theorem dL_law_760 : decode cL_law 760 = .ok (.invokevirtual 126, 3) := by decide +kernel
theorem dL_law_763 : decode cL_law 763 = .ok (.istore 15, 2) := by decide +kernel
theorem dL_law_765 : decode cL_law 765 = .ok (.iload 14, 2) := by decide +kernel
theorem dL_law_767 : decode cL_law 767 = .ok (.iload 6, 2) := by decide +kernel
theorem dL_law_769 : decode cL_law 769 = .ok (.if_icmp .ne 41, 3) := by decide +kernel
theorem dL_law_772 : decode cL_law 772 = .ok (.iload 15, 2) := by decide +kernel
theorem dL_law_774 : decode cL_law 774 = .ok (.iload 11, 2) := by decide +kernel
theorem dL_law_776 : decode cL_law 776 = .ok (.if_icmp .gt 34, 3) := by decide +kernel
theorem dL_law_779 : decode cL_law 779 = .ok (.iload 6, 2) := by decide +kernel
theorem dL_law_781 : decode cL_law 781 = .ok (.sipush 250, 3) := by decide +kernel
theorem dL_law_784 : decode cL_law 784 = .ok (.if_icmp .gt 28, 3) := by decide +kernel
theorem dL_law_787 : decode cL_law 787 = .ok (.iload 15, 2) := by decide +kernel
theorem dL_law_789 : decode cL_law 789 = .ok (.ifCond .ne 7, 3) := by decide +kernel
theorem dL_law_792 : decode cL_law 792 = .ok (.iconst 1, 1) := by decide +kernel
theorem dL_law_793 : decode cL_law 793 = .ok (.goto 4, 3) := by decide +kernel
theorem dL_law_796 : decode cL_law 796 = .ok (.iconst 0, 1) := by decide +kernel
theorem dL_law_797 : decode cL_law 797 = .ok (.iload 11, 2) := by decide +kernel
theorem dL_law_799 : decode cL_law 799 = .ok (.ifCond .ne 7, 3) := by decide +kernel
theorem dL_law_802 : decode cL_law 802 = .ok (.iconst 1, 1) := by decide +kernel
theorem dL_law_803 : decode cL_law 803 = .ok (.goto 4, 3) := by decide +kernel
theorem dL_law_806 : decode cL_law 806 = .ok (.iconst 0, 1) := by decide +kernel
theorem dL_law_807 : decode cL_law 807 = .ok (.if_icmp .eq 5, 3) := by decide +kernel
theorem dL_law_810 : decode cL_law 810 = .ok (.iconst 0, 1) := by decide +kernel
theorem dL_law_811 : decode cL_law 811 = .ok (.ireturn, 1) := by decide +kernel
theorem dL_law_812 : decode cL_law 812 = .ok (.iinc 7 1, 3) := by decide +kernel
theorem dL_law_815 : decode cL_law 815 = .ok (.goto (-766), 3) := by decide +kernel
theorem dL_law_818 : decode cL_law 818 = .ok (.iconst 1, 1) := by decide +kernel
theorem dL_law_819 : decode cL_law 819 = .ok (.istore 7, 2) := by decide +kernel
theorem dL_law_821 : decode cL_law 821 = .ok (.iload 7, 2) := by decide +kernel
theorem dL_law_823 : decode cL_law 823 = .ok (.sipush 250, 3) := by decide +kernel
theorem dL_law_826 : decode cL_law 826 = .ok (.iload 6, 2) := by decide +kernel
theorem dL_law_828 : decode cL_law 828 = .ok (.invokestatic 110, 3) := by decide +kernel
theorem dL_law_831 : decode cL_law 831 = .ok (.if_icmp .ge 108, 3) := by decide +kernel
theorem dL_law_834 : decode cL_law 834 = .ok (.aload_n 1, 1) := by decide +kernel
theorem dL_law_835 : decode cL_law 835 = .ok (.iload 7, 2) := by decide +kernel
theorem dL_law_837 : decode cL_law 837 = .ok (.iconst 0, 1) := by decide +kernel
theorem dL_law_838 : decode cL_law 838 = .ok (.invokevirtual 129, 3) := by decide +kernel
theorem dL_law_841 : decode cL_law 841 = .ok (.istore 8, 2) := by decide +kernel
theorem dL_law_843 : decode cL_law 843 = .ok (.aload_n 1, 1) := by decide +kernel
theorem dL_law_844 : decode cL_law 844 = .ok (.iload 7, 2) := by decide +kernel
theorem dL_law_846 : decode cL_law 846 = .ok (.iconst 1, 1) := by decide +kernel
theorem dL_law_847 : decode cL_law 847 = .ok (.isub, 1) := by decide +kernel
theorem dL_law_848 : decode cL_law 848 = .ok (.iconst 0, 1) := by decide +kernel
theorem dL_law_849 : decode cL_law 849 = .ok (.invokevirtual 129, 3) := by decide +kernel
theorem dL_law_852 : decode cL_law 852 = .ok (.istore 9, 2) := by decide +kernel
theorem dL_law_854 : decode cL_law 854 = .ok (.aload_n 1, 1) := by decide +kernel
theorem dL_law_855 : decode cL_law 855 = .ok (.aload_n 1, 1) := by decide +kernel
theorem dL_law_856 : decode cL_law 856 = .ok (.iload 7, 2) := by decide +kernel
theorem dL_law_858 : decode cL_law 858 = .ok (.iconst 1, 1) := by decide +kernel
theorem dL_law_859 : decode cL_law 859 = .ok (.invokevirtual 129, 3) := by decide +kernel
theorem dL_law_862 : decode cL_law 862 = .ok (.iconst 0, 1) := by decide +kernel
theorem dL_law_863 : decode cL_law 863 = .ok (.invokevirtual 106, 3) := by decide +kernel
theorem dL_law_866 : decode cL_law 866 = .ok (.istore 10, 2) := by decide +kernel
theorem dL_law_868 : decode cL_law 868 = .ok (.aload_n 1, 1) := by decide +kernel
theorem dL_law_869 : decode cL_law 869 = .ok (.aload_n 1, 1) := by decide +kernel
theorem dL_law_870 : decode cL_law 870 = .ok (.iload 7, 2) := by decide +kernel
theorem dL_law_872 : decode cL_law 872 = .ok (.iconst 1, 1) := by decide +kernel
theorem dL_law_873 : decode cL_law 873 = .ok (.isub, 1) := by decide +kernel
theorem dL_law_874 : decode cL_law 874 = .ok (.iconst 1, 1) := by decide +kernel
theorem dL_law_875 : decode cL_law 875 = .ok (.invokevirtual 129, 3) := by decide +kernel
theorem dL_law_878 : decode cL_law 878 = .ok (.iconst 0, 1) := by decide +kernel
theorem dL_law_879 : decode cL_law 879 = .ok (.invokevirtual 106, 3) := by decide +kernel
theorem dL_law_882 : decode cL_law 882 = .ok (.istore 11, 2) := by decide +kernel
theorem dL_law_884 : decode cL_law 884 = .ok (.iload 8, 2) := by decide +kernel
theorem dL_law_886 : decode cL_law 886 = .ok (.iload 9, 2) := by decide +kernel
theorem dL_law_888 : decode cL_law 888 = .ok (.if_icmp .lt 43, 3) := by decide +kernel
theorem dL_law_891 : decode cL_law 891 = .ok (.iload 8, 2) := by decide +kernel
theorem dL_law_893 : decode cL_law 893 = .ok (.iload 9, 2) := by decide +kernel
theorem dL_law_895 : decode cL_law 895 = .ok (.if_icmp .ne 38, 3) := by decide +kernel
theorem dL_law_898 : decode cL_law 898 = .ok (.iload 10, 2) := by decide +kernel
theorem dL_law_900 : decode cL_law 900 = .ok (.iload 11, 2) := by decide +kernel
theorem dL_law_902 : decode cL_law 902 = .ok (.if_icmp .lt 29, 3) := by decide +kernel
theorem dL_law_905 : decode cL_law 905 = .ok (.iload 10, 2) := by decide +kernel
theorem dL_law_907 : decode cL_law 907 = .ok (.iload 11, 2) := by decide +kernel
theorem dL_law_909 : decode cL_law 909 = .ok (.if_icmp .ne 24, 3) := by decide +kernel
theorem dL_law_912 : decode cL_law 912 = .ok (.aload_n 1, 1) := by decide +kernel
theorem dL_law_913 : decode cL_law 913 = .ok (.iload 7, 2) := by decide +kernel
theorem dL_law_915 : decode cL_law 915 = .ok (.iconst 1, 1) := by decide +kernel
theorem dL_law_916 : decode cL_law 916 = .ok (.invokevirtual 129, 3) := by decide +kernel
theorem dL_law_919 : decode cL_law 919 = .ok (.aload_n 1, 1) := by decide +kernel
theorem dL_law_920 : decode cL_law 920 = .ok (.iload 7, 2) := by decide +kernel
theorem dL_law_922 : decode cL_law 922 = .ok (.iconst 1, 1) := by decide +kernel
theorem dL_law_923 : decode cL_law 923 = .ok (.isub, 1) := by decide +kernel
theorem dL_law_924 : decode cL_law 924 = .ok (.iconst 1, 1) := by decide +kernel
theorem dL_law_925 : decode cL_law 925 = .ok (.invokevirtual 129, 3) := by decide +kernel
theorem dL_law_928 : decode cL_law 928 = .ok (.if_icmp .ge 5, 3) := by decide +kernel
theorem dL_law_931 : decode cL_law 931 = .ok (.iconst 0, 1) := by decide +kernel
theorem dL_law_932 : decode cL_law 932 = .ok (.ireturn, 1) := by decide +kernel
theorem dL_law_933 : decode cL_law 933 = .ok (.iinc 7 1, 3) := by decide +kernel
theorem dL_law_936 : decode cL_law 936 = .ok (.goto (-115), 3) := by decide +kernel
theorem dL_law_939 : decode cL_law 939 = .ok (.aload_n 1, 1) := by decide +kernel
theorem dL_law_940 : decode cL_law 940 = .ok (.invokevirtual 132, 3) := by decide +kernel
theorem dL_law_943 : decode cL_law 943 = .ok (.sipush 250, 3) := by decide +kernel
theorem dL_law_946 : decode cL_law 946 = .ok (.iload 6, 2) := by decide +kernel
theorem dL_law_948 : decode cL_law 948 = .ok (.invokestatic 110, 3) := by decide +kernel
theorem dL_law_951 : decode cL_law 951 = .ok (.if_icmp .gt 29, 3) := by decide +kernel
theorem dL_law_954 : decode cL_law 954 = .ok (.aload_n 1, 1) := by decide +kernel
theorem dL_law_955 : decode cL_law 955 = .ok (.invokevirtual 136, 3) := by decide +kernel
theorem dL_law_958 : decode cL_law 958 = .ok (.sipush 250, 3) := by decide +kernel
theorem dL_law_961 : decode cL_law 961 = .ok (.iload 6, 2) := by decide +kernel
theorem dL_law_963 : decode cL_law 963 = .ok (.invokestatic 110, 3) := by decide +kernel
theorem dL_law_966 : decode cL_law 966 = .ok (.if_icmp .ne 14, 3) := by decide +kernel
theorem dL_law_969 : decode cL_law 969 = .ok (.aload_n 1, 1) := by decide +kernel
theorem dL_law_970 : decode cL_law 970 = .ok (.invokevirtual 132, 3) := by decide +kernel
theorem dL_law_973 : decode cL_law 973 = .ok (.ifCond .ne 7, 3) := by decide +kernel
theorem dL_law_976 : decode cL_law 976 = .ok (.iconst 1, 1) := by decide +kernel
theorem dL_law_977 : decode cL_law 977 = .ok (.goto 4, 3) := by decide +kernel
theorem dL_law_980 : decode cL_law 980 = .ok (.iconst 0, 1) := by decide +kernel
theorem dL_law_981 : decode cL_law 981 = .ok (.ireturn, 1) := by decide +kernel
end
section
/-! the words of the tables, each by its place -/
noncomputable def wB : List Cond := lw_tbl.filter goodWord
theorem wB_good : GoodIn wB wB := fun w h => ⟨h, good_of_word (List.mem_filter.mp h).2⟩
theorem wIn {w : Cond} (i : Nat) (h : lw_tbl[i]? = some w) (hg : goodWord w = true) : w ∈ wB := List.mem_filter.mpr ⟨List.mem_of_getElem? h, hg⟩
theorem wB_tbl : ∀ w ∈ wB, w ∈ lw_tbl := fun _ h => (List.mem_filter.mp h).1
theorem wSE_X4_X4_springAt : Cond.selects RX4 yX4_springAt yX4_springAt ∈ wB := wIn 0 (by decide +kernel) rfl
theorem wSE_X4_X4_birdsDrivenBy : Cond.selects RX4 yX4_birdsDrivenBy yX4_birdsDrivenBy ∈ wB := wIn 2 (by decide +kernel) rfl
theorem wSE_X4_X4_loadOn : Cond.selects RX4 yX4_loadOn yX4_loadOn ∈ wB := wIn 3 (by decide +kernel) rfl
theorem wSE_X4_X4_birdAt : Cond.selects RX4 yX4_birdAt yX4_birdAt ∈ wB := wIn 4 (by decide +kernel) rfl
theorem wSE_X4_X4_goOneTick : Cond.selects RX4 yX4_goOneTick yX4_goOneTick ∈ wB := wIn 5 (by decide +kernel) rfl
theorem wSE_X4_X4_shareBetweenCoupled : Cond.selects RX4 yX4_shareBetweenCoupled yX4_shareBetweenCoupled ∈ wB := wIn 6 (by decide +kernel) rfl
theorem wSE_X4_X4_goShaft : Cond.selects RX4 yX4_goShaft yX4_goShaft ∈ wB := wIn 7 (by decide +kernel) rfl
theorem wSE_X4_X4_goBarrel : Cond.selects RX4 yX4_goBarrel yX4_goBarrel ∈ wB := wIn 8 (by decide +kernel) rfl
theorem wSE_X4_X4_soundPlace : Cond.selects RX4 yX4_soundPlace yX4_soundPlace ∈ wB := wIn 9 (by decide +kernel) rfl
theorem wSE_X4_X4_heldByAll : Cond.selects RX4 yX4_heldByAll yX4_heldByAll ∈ wB := wIn 10 (by decide +kernel) rfl
theorem wIN_L : Cond.initialized RL ∈ wB := wIn 11 (by decide +kernel) rfl
theorem wIN_X4 : Cond.initialized RX4 ∈ wB := wIn 12 (by decide +kernel) rfl
theorem wIN_X2 : Cond.initialized RX2 ∈ wB := wIn 13 (by decide +kernel) rfl
theorem wIN_X6 : Cond.initialized RX6 ∈ wB := wIn 14 (by decide +kernel) rfl
theorem wIN_java_lang_Throwable : Cond.initialized "java/lang/Throwable" ∈ wB := wIn 15 (by decide +kernel) rfl
theorem wIN_java_lang_Exception : Cond.initialized "java/lang/Exception" ∈ wB := wIn 16 (by decide +kernel) rfl
theorem wIN_java_lang_RuntimeException : Cond.initialized "java/lang/RuntimeException" ∈ wB := wIn 17 (by decide +kernel) rfl
theorem wIN_java_lang_IllegalArgumentException : Cond.initialized "java/lang/IllegalArgumentException" ∈ wB := wIn 18 (by decide +kernel) rfl
theorem wIN_java_lang_IllegalStateException : Cond.initialized "java/lang/IllegalStateException" ∈ wB := wIn 19 (by decide +kernel) rfl
theorem wIN_X3 : Cond.initialized RX3 ∈ wB := wIn 20 (by decide +kernel) rfl
theorem wIN_java_lang_IndexOutOfBoundsException : Cond.initialized "java/lang/IndexOutOfBoundsException" ∈ wB := wIn 21 (by decide +kernel) rfl
theorem wIN_J9 : Cond.initialized RJ9 ∈ wB := wIn 22 (by decide +kernel) rfl
theorem wIN_X5 : Cond.initialized RX5 ∈ wB := wIn 23 (by decide +kernel) rfl
theorem wIN_J6 : Cond.initialized RJ6 ∈ wB := wIn 24 (by decide +kernel) rfl
theorem wIN_X0 : Cond.initialized RX0 ∈ wB := wIn 25 (by decide +kernel) rfl
theorem wIN_X1 : Cond.initialized RX1 ∈ wB := wIn 26 (by decide +kernel) rfl
theorem wIN_J13 : Cond.initialized RJ13 ∈ wB := wIn 27 (by decide +kernel) rfl
theorem wCL_L_23 : Cond.classLink RL 23 RX4 ∈ wB := wIn 28 (by decide +kernel) rfl
theorem wIS_X4 : Cond.instantiable RX4 7 ∈ wB := wIn 29 (by decide +kernel) rfl
theorem wML_L_96 : Cond.methodLink RL 96 yX4_init ∈ wB := wIn 30 (by decide +kernel) rfl
theorem wIM_X4_init : Cond.instanceMethod yX4_init ∈ wB := wIn 31 (by decide +kernel) rfl
theorem wCO_X4_init : Cond.code yX4_init cX4_init 1 none ∈ wB := wIn 32 (by decide +kernel) rfl
theorem wML_X4_1 : Cond.methodLink RX4 1 objectInit ∈ wB := wIn 33 (by decide +kernel) rfl
theorem wIM_java_lang_Object__init____V : Cond.instanceMethod objectInit ∈ wB := wIn 34 (by decide +kernel) rfl
theorem wCO_java_lang_Object__init____V : Cond.code objectInit object_method_1_code 1 none ∈ wB := wIn 35 (by decide +kernel) rfl
theorem wCL_X4_9 : Cond.classLink RX4 9 RX3 ∈ wB := wIn 36 (by decide +kernel) rfl
theorem warrayOver___object__BirdParlour_Spring__ : Cond.arrayOver (.object "BirdParlour$Spring") ∈ lw_tbl := List.mem_of_getElem? (i := 37) (by decide +kernel)
theorem wCL_X4_15 : Cond.classLink RX4 15 RX0 ∈ wB := wIn 38 (by decide +kernel) rfl
theorem warrayOver___object__BirdParlour_Bird__ : Cond.arrayOver (.object "BirdParlour$Bird") ∈ lw_tbl := List.mem_of_getElem? (i := 39) (by decide +kernel)
theorem wCL_X4_21 : Cond.classLink RX4 21 RX2 ∈ wB := wIn 40 (by decide +kernel) rfl
theorem wIS_X2 : Cond.instantiable RX2 5 ∈ wB := wIn 41 (by decide +kernel) rfl
theorem wMN_X4_23 : Cond.methodLinkNest RX4 23 yX2_init "BirdParlour" ∈ lw_tbl := List.mem_of_getElem? (i := 42) (by decide +kernel)
theorem wIM_X2_init : Cond.instanceMethod yX2_init ∈ wB := wIn 43 (by decide +kernel) rfl
theorem wCO_X2_init : Cond.code yX2_init cX2_init 1 none ∈ wB := wIn 44 (by decide +kernel) rfl
theorem wML_X2_3 : Cond.methodLink RX2 3 objectInit ∈ wB := wIn 45 (by decide +kernel) rfl
theorem wFL_X2_9 : Cond.fieldLink RX2 9 RX2 "kept" "[I" ∈ wB := wIn 46 (by decide +kernel) rfl
theorem wFL_X2_15 : Cond.fieldLink RX2 15 RX2 "keptNotes" "I" ∈ wB := wIn 47 (by decide +kernel) rfl
theorem wFL_X4_245 : Cond.fieldLink RX4 245 RX2 "keptNotes" "I" ∈ wB := wIn 48 (by decide +kernel) rfl
theorem wFL_X2_22 : Cond.fieldLink RX2 22 RX2 "allNotes" "I" ∈ wB := wIn 49 (by decide +kernel) rfl
theorem wFL_X4_237 : Cond.fieldLink RX4 237 RX2 "allNotes" "I" ∈ wB := wIn 50 (by decide +kernel) rfl
theorem warrayClass__int : Cond.arrayClass .int ∈ wB := wIn 62 (by decide +kernel) rfl
theorem wFL_X4_11 : Cond.fieldLink RX4 11 RX4 "springs" "[LBirdParlour$Spring;" ∈ wB := wIn 63 (by decide +kernel) rfl
theorem wFL_X4_17 : Cond.fieldLink RX4 17 RX4 "birds" "[LBirdParlour$Bird;" ∈ wB := wIn 64 (by decide +kernel) rfl
theorem wFL_X4_24 : Cond.fieldLink RX4 24 RX4 "songs" "LBirdParlour$Songs;" ∈ wB := wIn 65 (by decide +kernel) rfl
theorem wFL_X4_39 : Cond.fieldLink RX4 39 RX4 "springCount" "I" ∈ wB := wIn 66 (by decide +kernel) rfl
theorem wFL_X4_114 : Cond.fieldLink RX4 114 RX4 "birdCount" "I" ∈ wB := wIn 67 (by decide +kernel) rfl
theorem wFL_X4_81 : Cond.fieldLink RX4 81 RX4 "couplings" "I" ∈ wB := wIn 68 (by decide +kernel) rfl
theorem wFL_X4_234 : Cond.fieldLink RX4 234 RX4 "tick" "I" ∈ wB := wIn 69 (by decide +kernel) rfl
theorem wML_L_28 : Cond.methodLink RL 28 yX4_wind ∈ wB := wIn 85 (by decide +kernel) rfl
theorem wIM_X4_wind : Cond.instanceMethod yX4_wind ∈ wB := wIn 86 (by decide +kernel) rfl
theorem wSE_X4_X4_wind : Cond.selects RX4 yX4_wind yX4_wind ∈ wB := wIn 87 (by decide +kernel) rfl
theorem wCO_X4_wind : Cond.code yX4_wind cX4_wind 4 (some .int) ∈ wB := wIn 88 (by decide +kernel) rfl
theorem wML_X4_51 : Cond.methodLink RX4 51 yX4_springAt ∈ wB := wIn 89 (by decide +kernel) rfl
theorem wPM_X4_springAt : Cond.privateMethod yX4_springAt ∈ lw_tbl := List.mem_of_getElem? (i := 90) (by decide +kernel)
theorem wIM_X4_springAt : Cond.instanceMethod yX4_springAt ∈ wB := wIn 91 (by decide +kernel) rfl
theorem wCO_X4_springAt : Cond.code yX4_springAt cX4_springAt 2 (some (.object "BirdParlour$Spring")) ∈ wB := wIn 92 (by decide +kernel) rfl
theorem wCL_X4_55 : Cond.classLink RX4 55 "java/lang/IndexOutOfBoundsException" ∈ wB := wIn 93 (by decide +kernel) rfl
theorem wCA_java_lang_IndexOutOfBoundsException_java_lang_IndexOutOfBoundsException : Cond.castable "java/lang/IndexOutOfBoundsException" "java/lang/IndexOutOfBoundsException" ∈ lw_tbl := List.mem_of_getElem? (i := 95) (by decide +kernel)
theorem wlaysStatic_java_lang_Throwable_UNASSIGNED_STACK : Cond.laysStatic "java/lang/Throwable" "UNASSIGNED_STACK" "[Ljava/lang/StackTraceElement;" ∈ lw_tbl := List.mem_of_getElem? (i := 120) (by decide +kernel)
theorem wlaysStatic_java_lang_Throwable_SUPPRESSED_SENTINEL : Cond.laysStatic "java/lang/Throwable" "SUPPRESSED_SENTINEL" "Ljava/util/List;" ∈ lw_tbl := List.mem_of_getElem? (i := 122) (by decide +kernel)
theorem wPM_java_lang_Throwable_fillInStackTrace__I_Ljava_lang_Throwable_ : Cond.privateMethod ⟨"java/lang/Throwable", "fillInStackTrace", "(I)Ljava/lang/Throwable;"⟩ ∈ lw_tbl := List.mem_of_getElem? (i := 130) (by decide +kernel)
theorem wNA_java_lang_Throwable_fillInStackTrace__I_Ljava_lang_Throwable_ : Cond.native ⟨"java/lang/Throwable", "fillInStackTrace", "(I)Ljava/lang/Throwable;"⟩ ∈ lw_tbl := List.mem_of_getElem? (i := 133) (by decide +kernel)
theorem wSR_57 : Cond.stringRef RX4 57 "no such spring" ∈ lw_tbl := List.mem_of_getElem? (i := 134) (by decide +kernel)
theorem wML_X4_59 : Cond.methodLink RX4 59 ⟨"java/lang/IndexOutOfBoundsException", "<init>", "(Ljava/lang/String;)V"⟩ ∈ wB := wIn 135 (by decide +kernel) rfl
theorem warrayClass__byte : Cond.arrayClass .byte ∈ wB := wIn 160 (by decide +kernel) rfl
theorem wconstant_X4_60 : Cond.constant RX4 60 200000 ∈ wB := wIn 161 (by decide +kernel) rfl
theorem wML_X4_28 : Cond.methodLink RX4 28 yX4_isIn ∈ wB := wIn 162 (by decide +kernel) rfl
theorem wST_X4_isIn : Cond.static yX4_isIn ∈ wB := wIn 163 (by decide +kernel) rfl
theorem wCO_X4_isIn : Cond.code yX4_isIn cX4_isIn 3 (some .boolean) ∈ wB := wIn 164 (by decide +kernel) rfl
theorem wCL_X4_32 : Cond.classLink RX4 32 "java/lang/IllegalArgumentException" ∈ wB := wIn 165 (by decide +kernel) rfl
theorem wCA_java_lang_IllegalArgumentException_java_lang_IllegalArgumentException : Cond.castable "java/lang/IllegalArgumentException" "java/lang/IllegalArgumentException" ∈ lw_tbl := List.mem_of_getElem? (i := 167) (by decide +kernel)
theorem wSR_61 : Cond.stringRef RX4 61 "turns is not 1 to 200000" ∈ lw_tbl := List.mem_of_getElem? (i := 174) (by decide +kernel)
theorem wML_X4_36 : Cond.methodLink RX4 36 ⟨"java/lang/IllegalArgumentException", "<init>", "(Ljava/lang/String;)V"⟩ ∈ wB := wIn 175 (by decide +kernel) rfl
theorem wML_X4_66 : Cond.methodLink RX4 66 Lib.Math.min.name ∈ wB := wIn 181 (by decide +kernel) rfl
theorem wST_J9_min_7cf53 : Cond.static Lib.Math.min.name ∈ wB := wIn 182 (by decide +kernel) rfl
theorem wCO_J9_min_7cf53 : Cond.code Lib.Math.min.name Lib.Math.min.code 2 (some .int) ∈ wB := wIn 183 (by decide +kernel) rfl
theorem wML_L_104 : Cond.methodLink RL 104 yX4_spring ∈ wB := wIn 184 (by decide +kernel) rfl
theorem wIM_X4_spring : Cond.instanceMethod yX4_spring ∈ wB := wIn 185 (by decide +kernel) rfl
theorem wSE_X4_X4_spring : Cond.selects RX4 yX4_spring yX4_spring ∈ wB := wIn 186 (by decide +kernel) rfl
theorem wCO_X4_spring : Cond.code yX4_spring cX4_spring 4 (some .int) ∈ wB := wIn 187 (by decide +kernel) rfl
theorem wML_X4_100 : Cond.methodLink RX4 100 yX4_birdsDrivenBy ∈ wB := wIn 188 (by decide +kernel) rfl
theorem wPM_X4_birdsDrivenBy : Cond.privateMethod yX4_birdsDrivenBy ∈ lw_tbl := List.mem_of_getElem? (i := 189) (by decide +kernel)
theorem wIM_X4_birdsDrivenBy : Cond.instanceMethod yX4_birdsDrivenBy ∈ wB := wIn 190 (by decide +kernel) rfl
theorem wCO_X4_birdsDrivenBy : Cond.code yX4_birdsDrivenBy cX4_birdsDrivenBy 7 (some .int) ∈ wB := wIn 191 (by decide +kernel) rfl
theorem wML_X4_314 : Cond.methodLink RX4 314 yX0_isDrivenBy ∈ wB := wIn 192 (by decide +kernel) rfl
theorem wIM_X0_isDrivenBy : Cond.instanceMethod yX0_isDrivenBy ∈ wB := wIn 193 (by decide +kernel) rfl
theorem wSE_X0_X0_isDrivenBy : Cond.selects RX0 yX0_isDrivenBy yX0_isDrivenBy ∈ wB := wIn 194 (by decide +kernel) rfl
theorem wCO_X0_isDrivenBy : Cond.code yX0_isDrivenBy cX0_isDrivenBy 2 (some .boolean) ∈ wB := wIn 195 (by decide +kernel) rfl
theorem wML_X4_103 : Cond.methodLink RX4 103 yX4_loadOn ∈ wB := wIn 196 (by decide +kernel) rfl
theorem wPM_X4_loadOn : Cond.privateMethod yX4_loadOn ∈ lw_tbl := List.mem_of_getElem? (i := 197) (by decide +kernel)
theorem wIM_X4_loadOn : Cond.instanceMethod yX4_loadOn ∈ wB := wIn 198 (by decide +kernel) rfl
theorem wCO_X4_loadOn : Cond.code yX4_loadOn cX4_loadOn 7 (some .int) ∈ wB := wIn 199 (by decide +kernel) rfl
theorem wML_X4_345 : Cond.methodLink RX4 345 yX0_burden ∈ wB := wIn 200 (by decide +kernel) rfl
theorem wIM_X0_burden : Cond.instanceMethod yX0_burden ∈ wB := wIn 201 (by decide +kernel) rfl
theorem wSE_X0_X0_burden : Cond.selects RX0 yX0_burden yX0_burden ∈ wB := wIn 202 (by decide +kernel) rfl
theorem wCO_X0_burden : Cond.code yX0_burden cX0_burden 7 (some .int) ∈ wB := wIn 203 (by decide +kernel) rfl
theorem wML_X0_86 : Cond.methodLink RX0 86 yX0_placeNow ∈ wB := wIn 204 (by decide +kernel) rfl
theorem wIM_X0_placeNow : Cond.instanceMethod yX0_placeNow ∈ wB := wIn 205 (by decide +kernel) rfl
theorem wSE_X0_X0_placeNow : Cond.selects RX0 yX0_placeNow yX0_placeNow ∈ wB := wIn 206 (by decide +kernel) rfl
theorem wCO_X0_placeNow : Cond.code yX0_placeNow cX0_placeNow 1 (some .int) ∈ wB := wIn 207 (by decide +kernel) rfl
theorem wML_X0_63 : Cond.methodLink RX0 63 yX0_placeWhenGone ∈ wB := wIn 208 (by decide +kernel) rfl
theorem wIM_X0_placeWhenGone : Cond.instanceMethod yX0_placeWhenGone ∈ wB := wIn 209 (by decide +kernel) rfl
theorem wSE_X0_X0_placeWhenGone : Cond.selects RX0 yX0_placeWhenGone yX0_placeWhenGone ∈ wB := wIn 210 (by decide +kernel) rfl
theorem wCO_X0_placeWhenGone : Cond.code yX0_placeWhenGone cX0_placeWhenGone 3 (some .int) ∈ wB := wIn 211 (by decide +kernel) rfl
theorem wMN_X0_71 : Cond.methodLinkNest RX0 71 yX4_at "BirdParlour" ∈ lw_tbl := List.mem_of_getElem? (i := 212) (by decide +kernel)
theorem wST_X4_at : Cond.static yX4_at ∈ wB := wIn 213 (by decide +kernel) rfl
theorem wCO_X4_at : Cond.code yX4_at cX4_at 2 (some .int) ∈ wB := wIn 214 (by decide +kernel) rfl
theorem wSR_106 : Cond.stringRef RX4 106 "what is not 0 to 6" ∈ lw_tbl := List.mem_of_getElem? (i := 215) (by decide +kernel)
theorem wML_L_106 : Cond.methodLink RL 106 yX4_bird ∈ wB := wIn 216 (by decide +kernel) rfl
theorem wIM_X4_bird : Cond.instanceMethod yX4_bird ∈ wB := wIn 217 (by decide +kernel) rfl
theorem wSE_X4_X4_bird : Cond.selects RX4 yX4_bird yX4_bird ∈ wB := wIn 218 (by decide +kernel) rfl
theorem wCO_X4_bird : Cond.code yX4_bird cX4_bird 4 (some .int) ∈ wB := wIn 219 (by decide +kernel) rfl
theorem wML_X4_122 : Cond.methodLink RX4 122 yX4_birdAt ∈ wB := wIn 220 (by decide +kernel) rfl
theorem wPM_X4_birdAt : Cond.privateMethod yX4_birdAt ∈ lw_tbl := List.mem_of_getElem? (i := 221) (by decide +kernel)
theorem wIM_X4_birdAt : Cond.instanceMethod yX4_birdAt ∈ wB := wIn 222 (by decide +kernel) rfl
theorem wCO_X4_birdAt : Cond.code yX4_birdAt cX4_birdAt 2 (some (.object "BirdParlour$Bird")) ∈ wB := wIn 223 (by decide +kernel) rfl
theorem wSR_126 : Cond.stringRef RX4 126 "no such bird" ∈ lw_tbl := List.mem_of_getElem? (i := 224) (by decide +kernel)
theorem wML_X4_212 : Cond.methodLink RX4 212 yX0_placeNow ∈ wB := wIn 225 (by decide +kernel) rfl
theorem wSR_222 : Cond.stringRef RX4 222 "what is not 0 to 9" ∈ lw_tbl := List.mem_of_getElem? (i := 226) (by decide +kernel)
theorem wML_L_120 : Cond.methodLink RL 120 yX4_lift ∈ wB := wIn 227 (by decide +kernel) rfl
theorem wIM_X4_lift : Cond.instanceMethod yX4_lift ∈ wB := wIn 228 (by decide +kernel) rfl
theorem wSE_X4_X4_lift : Cond.selects RX4 yX4_lift yX4_lift ∈ wB := wIn 229 (by decide +kernel) rfl
theorem wCO_X4_lift : Cond.code yX4_lift cX4_lift 6 (some .int) ∈ wB := wIn 230 (by decide +kernel) rfl
theorem wML_X4_173 : Cond.methodLink RX4 173 yX0_camAt ∈ wB := wIn 231 (by decide +kernel) rfl
theorem wIM_X0_camAt : Cond.instanceMethod yX0_camAt ∈ wB := wIn 232 (by decide +kernel) rfl
theorem wSE_X0_X0_camAt : Cond.selects RX0 yX0_camAt yX0_camAt ∈ wB := wIn 233 (by decide +kernel) rfl
theorem wCO_X0_camAt : Cond.code yX0_camAt cX0_camAt 2 (some (.object "BirdParlour$Cam")) ∈ wB := wIn 234 (by decide +kernel) rfl
theorem wSR_177 : Cond.stringRef RX4 177 "no such bird or cam" ∈ lw_tbl := List.mem_of_getElem? (i := 235) (by decide +kernel)
theorem wML_X4_138 : Cond.methodLink RX4 138 yX0_hasPlace ∈ wB := wIn 236 (by decide +kernel) rfl
theorem wIM_X0_hasPlace : Cond.instanceMethod yX0_hasPlace ∈ wB := wIn 237 (by decide +kernel) rfl
theorem wSE_X0_X0_hasPlace : Cond.selects RX0 yX0_hasPlace yX0_hasPlace ∈ wB := wIn 238 (by decide +kernel) rfl
theorem wCO_X0_hasPlace : Cond.code yX0_hasPlace cX0_hasPlace 2 (some .boolean) ∈ wB := wIn 239 (by decide +kernel) rfl
theorem wMN_X0_67 : Cond.methodLinkNest RX0 67 yX4_isIn "BirdParlour" ∈ lw_tbl := List.mem_of_getElem? (i := 240) (by decide +kernel)
theorem wSR_224 : Cond.stringRef RX4 224 "place is neither -1 nor on the barrel" ∈ lw_tbl := List.mem_of_getElem? (i := 241) (by decide +kernel)
theorem wML_X4_165 : Cond.methodLink RX4 165 yX4_at ∈ wB := wIn 242 (by decide +kernel) rfl
theorem wML_L_115 : Cond.methodLink RL 115 yX4_run ∈ wB := wIn 243 (by decide +kernel) rfl
theorem wIM_X4_run : Cond.instanceMethod yX4_run ∈ wB := wIn 244 (by decide +kernel) rfl
theorem wSE_X4_X4_run : Cond.selects RX4 yX4_run yX4_run ∈ wB := wIn 245 (by decide +kernel) rfl
theorem wCO_X4_run : Cond.code yX4_run cX4_run 4 (some .int) ∈ wB := wIn 246 (by decide +kernel) rfl
theorem wSR_229 : Cond.stringRef RX4 229 "ticks is not 1 to 500" ∈ lw_tbl := List.mem_of_getElem? (i := 247) (by decide +kernel)
theorem wML_X4_231 : Cond.methodLink RX4 231 yX4_goOneTick ∈ wB := wIn 248 (by decide +kernel) rfl
theorem wPM_X4_goOneTick : Cond.privateMethod yX4_goOneTick ∈ lw_tbl := List.mem_of_getElem? (i := 249) (by decide +kernel)
theorem wIM_X4_goOneTick : Cond.instanceMethod yX4_goOneTick ∈ wB := wIn 250 (by decide +kernel) rfl
theorem wCO_X4_goOneTick : Cond.code yX4_goOneTick cX4_goOneTick 4 (some .int) ∈ wB := wIn 251 (by decide +kernel) rfl
theorem wML_X4_297 : Cond.methodLink RX4 297 yX4_shareBetweenCoupled ∈ wB := wIn 252 (by decide +kernel) rfl
theorem wPM_X4_shareBetweenCoupled : Cond.privateMethod yX4_shareBetweenCoupled ∈ lw_tbl := List.mem_of_getElem? (i := 253) (by decide +kernel)
theorem wIM_X4_shareBetweenCoupled : Cond.instanceMethod yX4_shareBetweenCoupled ∈ wB := wIn 254 (by decide +kernel) rfl
theorem wCO_X4_shareBetweenCoupled : Cond.code yX4_shareBetweenCoupled cX4_shareBetweenCoupled 3 none ∈ wB := wIn 255 (by decide +kernel) rfl
theorem wML_X4_78 : Cond.methodLink RX4 78 yX4_pairBit ∈ wB := wIn 256 (by decide +kernel) rfl
theorem wST_X4_pairBit : Cond.static yX4_pairBit ∈ wB := wIn 257 (by decide +kernel) rfl
theorem wCO_X4_pairBit : Cond.code yX4_pairBit cX4_pairBit 2 (some .int) ∈ wB := wIn 258 (by decide +kernel) rfl
theorem wML_X4_262 : Cond.methodLink RX4 262 Lib.Math.max.name ∈ wB := wIn 259 (by decide +kernel) rfl
theorem wST_J9_max_7cf53 : Cond.static Lib.Math.max.name ∈ wB := wIn 260 (by decide +kernel) rfl
theorem wCO_J9_max_7cf53 : Cond.code Lib.Math.max.name Lib.Math.max.code 2 (some .int) ∈ wB := wIn 261 (by decide +kernel) rfl
theorem wML_X4_304 : Cond.methodLink RX4 304 yX4_shareBetween ∈ wB := wIn 262 (by decide +kernel) rfl
theorem wST_X4_shareBetween : Cond.static yX4_shareBetween ∈ wB := wIn 263 (by decide +kernel) rfl
theorem wCO_X4_shareBetween : Cond.code yX4_shareBetween cX4_shareBetween 3 none ∈ wB := wIn 264 (by decide +kernel) rfl
theorem wML_X4_300 : Cond.methodLink RX4 300 yX4_goShaft ∈ wB := wIn 265 (by decide +kernel) rfl
theorem wPM_X4_goShaft : Cond.privateMethod yX4_goShaft ∈ lw_tbl := List.mem_of_getElem? (i := 266) (by decide +kernel)
theorem wIM_X4_goShaft : Cond.instanceMethod yX4_goShaft ∈ wB := wIn 267 (by decide +kernel) rfl
theorem wCO_X4_goShaft : Cond.code yX4_goShaft cX4_goShaft 6 (some .int) ∈ wB := wIn 268 (by decide +kernel) rfl
theorem wML_X4_308 : Cond.methodLink RX4 308 yX3_speedUnder ∈ wB := wIn 269 (by decide +kernel) rfl
theorem wIM_X3_speedUnder : Cond.instanceMethod yX3_speedUnder ∈ wB := wIn 270 (by decide +kernel) rfl
theorem wSE_X3_X3_speedUnder : Cond.selects RX3 yX3_speedUnder yX3_speedUnder ∈ wB := wIn 271 (by decide +kernel) rfl
theorem wCO_X3_speedUnder : Cond.code yX3_speedUnder cX3_speedUnder 4 (some .int) ∈ wB := wIn 272 (by decide +kernel) rfl
theorem wML_X3_34 : Cond.methodLink RX3 34 Lib.Math.max.name ∈ wB := wIn 273 (by decide +kernel) rfl
theorem wML_X3_40 : Cond.methodLink RX3 40 Lib.Math.min.name ∈ wB := wIn 274 (by decide +kernel) rfl
theorem wML_X4_311 : Cond.methodLink RX4 311 yX3_turn ∈ wB := wIn 275 (by decide +kernel) rfl
theorem wIM_X3_turn : Cond.instanceMethod yX3_turn ∈ wB := wIn 276 (by decide +kernel) rfl
theorem wSE_X3_X3_turn : Cond.selects RX3 yX3_turn yX3_turn ∈ wB := wIn 277 (by decide +kernel) rfl
theorem wCO_X3_turn : Cond.code yX3_turn cX3_turn 2 none ∈ wB := wIn 278 (by decide +kernel) rfl
theorem wML_X4_317 : Cond.methodLink RX4 317 yX4_goBarrel ∈ wB := wIn 279 (by decide +kernel) rfl
theorem wPM_X4_goBarrel : Cond.privateMethod yX4_goBarrel ∈ lw_tbl := List.mem_of_getElem? (i := 280) (by decide +kernel)
theorem wIM_X4_goBarrel : Cond.instanceMethod yX4_goBarrel ∈ wB := wIn 281 (by decide +kernel) rfl
theorem wCO_X4_goBarrel : Cond.code yX4_goBarrel cX4_goBarrel 10 (some .int) ∈ wB := wIn 282 (by decide +kernel) rfl
theorem wML_X4_321 : Cond.methodLink RX4 321 yX0_goneWhen ∈ wB := wIn 283 (by decide +kernel) rfl
theorem wIM_X0_goneWhen : Cond.instanceMethod yX0_goneWhen ∈ wB := wIn 284 (by decide +kernel) rfl
theorem wSE_X0_X0_goneWhen : Cond.selects RX0 yX0_goneWhen yX0_goneWhen ∈ wB := wIn 285 (by decide +kernel) rfl
theorem wCO_X0_goneWhen : Cond.code yX0_goneWhen cX0_goneWhen 5 (some .long) ∈ wB := wIn 286 (by decide +kernel) rfl
theorem wconstantLong_X0_61 : Cond.constantLong RX0 61 1000 ∈ wB := wIn 287 (by decide +kernel) rfl
theorem wML_X4_325 : Cond.methodLink RX4 325 Lib.MathLoose.min_long.x ∈ wB := wIn 288 (by decide +kernel) rfl
theorem wST_J9_min_f86c9 : Cond.static Lib.MathLoose.min_long.x ∈ wB := wIn 289 (by decide +kernel) rfl
theorem wCO_J9_min_f86c9 : Cond.code Lib.MathLoose.min_long.x Lib.MathLoose.min_long.code 4 (some .long) ∈ wB := wIn 290 (by decide +kernel) rfl
theorem wML_X4_328 : Cond.methodLink RX4 328 yX0_placeWhenGone ∈ wB := wIn 291 (by decide +kernel) rfl
theorem wML_X4_334 : Cond.methodLink RX4 334 yX4_soundPlace ∈ wB := wIn 292 (by decide +kernel) rfl
theorem wPM_X4_soundPlace : Cond.privateMethod yX4_soundPlace ∈ lw_tbl := List.mem_of_getElem? (i := 293) (by decide +kernel)
theorem wIM_X4_soundPlace : Cond.instanceMethod yX4_soundPlace ∈ wB := wIn 294 (by decide +kernel) rfl
theorem wCO_X4_soundPlace : Cond.code yX4_soundPlace cX4_soundPlace 7 (some .int) ∈ wB := wIn 295 (by decide +kernel) rfl
theorem wML_X4_146 : Cond.methodLink RX4 146 yX0_hasPin ∈ wB := wIn 296 (by decide +kernel) rfl
theorem wIM_X0_hasPin : Cond.instanceMethod yX0_hasPin ∈ wB := wIn 297 (by decide +kernel) rfl
theorem wSE_X0_X0_hasPin : Cond.selects RX0 yX0_hasPin yX0_hasPin ∈ wB := wIn 298 (by decide +kernel) rfl
theorem wCO_X0_hasPin : Cond.code yX0_hasPin cX0_hasPin 3 (some .boolean) ∈ wB := wIn 299 (by decide +kernel) rfl
theorem wML_X4_338 : Cond.methodLink RX4 338 yX3_payForNote ∈ wB := wIn 300 (by decide +kernel) rfl
theorem wIM_X3_payForNote : Cond.instanceMethod yX3_payForNote ∈ wB := wIn 301 (by decide +kernel) rfl
theorem wSE_X3_X3_payForNote : Cond.selects RX3 yX3_payForNote yX3_payForNote ∈ wB := wIn 302 (by decide +kernel) rfl
theorem wCO_X3_payForNote : Cond.code yX3_payForNote cX3_payForNote 1 none ∈ wB := wIn 303 (by decide +kernel) rfl
theorem wML_X4_341 : Cond.methodLink RX4 341 yX2_hear ∈ wB := wIn 304 (by decide +kernel) rfl
theorem wIM_X2_hear : Cond.instanceMethod yX2_hear ∈ wB := wIn 305 (by decide +kernel) rfl
theorem wSE_X2_X2_hear : Cond.selects RX2 yX2_hear yX2_hear ∈ wB := wIn 306 (by decide +kernel) rfl
theorem wCO_X2_hear : Cond.code yX2_hear cX2_hear 6 none ∈ wB := wIn 307 (by decide +kernel) rfl
theorem wMN_X2_28 : Cond.methodLinkNest RX2 28 yX4_put "BirdParlour" ∈ lw_tbl := List.mem_of_getElem? (i := 308) (by decide +kernel)
theorem wST_X4_put : Cond.static yX4_put ∈ wB := wIn 309 (by decide +kernel) rfl
theorem wCO_X4_put : Cond.code yX4_put cX4_put 3 none ∈ wB := wIn 310 (by decide +kernel) rfl
theorem wML_L_101 : Cond.methodLink RL 101 yX4_count ∈ wB := wIn 311 (by decide +kernel) rfl
theorem wIM_X4_count : Cond.instanceMethod yX4_count ∈ wB := wIn 312 (by decide +kernel) rfl
theorem wSE_X4_X4_count : Cond.selects RX4 yX4_count yX4_count ∈ wB := wIn 313 (by decide +kernel) rfl
theorem wCO_X4_count : Cond.code yX4_count cX4_count 2 (some .int) ∈ wB := wIn 314 (by decide +kernel) rfl
theorem wML_X4_84 : Cond.methodLink RX4 84 yJ6_bitCount_0f7a4 ∈ wB := wIn 315 (by decide +kernel) rfl
theorem wST_J6_bitCount_0f7a4 : Cond.static yJ6_bitCount_0f7a4 ∈ wB := wIn 316 (by decide +kernel) rfl
theorem wCO_J6_bitCount_0f7a4 : Cond.code yJ6_bitCount_0f7a4 cJ6_bitCount_0f7a4 1 (some .int) ∈ wB := wIn 317 (by decide +kernel) rfl
theorem wconstant_J6_265 : Cond.constant RJ6 265 1431655765 ∈ wB := wIn 318 (by decide +kernel) rfl
theorem wconstant_J6_266 : Cond.constant RJ6 266 858993459 ∈ wB := wIn 319 (by decide +kernel) rfl
theorem wconstant_J6_267 : Cond.constant RJ6 267 252645135 ∈ wB := wIn 320 (by decide +kernel) rfl
theorem wML_X4_240 : Cond.methodLink RX4 240 yX4_heldByAll ∈ wB := wIn 321 (by decide +kernel) rfl
theorem wPM_X4_heldByAll : Cond.privateMethod yX4_heldByAll ∈ lw_tbl := List.mem_of_getElem? (i := 322) (by decide +kernel)
theorem wIM_X4_heldByAll : Cond.instanceMethod yX4_heldByAll ∈ wB := wIn 323 (by decide +kernel) rfl
theorem wCO_X4_heldByAll : Cond.code yX4_heldByAll cX4_heldByAll 6 (some .int) ∈ wB := wIn 324 (by decide +kernel) rfl
theorem wSR_243 : Cond.stringRef RX4 243 "what is not 0 to 5" ∈ lw_tbl := List.mem_of_getElem? (i := 325) (by decide +kernel)
theorem wML_L_129 : Cond.methodLink RL 129 yX4_sung ∈ wB := wIn 326 (by decide +kernel) rfl
theorem wIM_X4_sung : Cond.instanceMethod yX4_sung ∈ wB := wIn 327 (by decide +kernel) rfl
theorem wSE_X4_X4_sung : Cond.selects RX4 yX4_sung yX4_sung ∈ wB := wIn 328 (by decide +kernel) rfl
theorem wCO_X4_sung : Cond.code yX4_sung cX4_sung 3 (some .int) ∈ wB := wIn 329 (by decide +kernel) rfl
theorem wSR_248 : Cond.stringRef RX4 248 "no such note" ∈ lw_tbl := List.mem_of_getElem? (i := 330) (by decide +kernel)
theorem wSR_250 : Cond.stringRef RX4 250 "what is not 0 to 3" ∈ lw_tbl := List.mem_of_getElem? (i := 331) (by decide +kernel)
theorem wML_X4_252 : Cond.methodLink RX4 252 yX2_told ∈ wB := wIn 332 (by decide +kernel) rfl
theorem wIM_X2_told : Cond.instanceMethod yX2_told ∈ wB := wIn 333 (by decide +kernel) rfl
theorem wSE_X2_X2_told : Cond.selects RX2 yX2_told yX2_told ∈ wB := wIn 334 (by decide +kernel) rfl
theorem wCO_X2_told : Cond.code yX2_told cX2_told 3 (some .int) ∈ wB := wIn 335 (by decide +kernel) rfl
theorem wMN_X2_32 : Cond.methodLinkNest RX2 32 yX4_at "BirdParlour" ∈ lw_tbl := List.mem_of_getElem? (i := 336) (by decide +kernel)
theorem wML_L_126 : Cond.methodLink RL 126 yX4_chord ∈ wB := wIn 337 (by decide +kernel) rfl
theorem wIM_X4_chord : Cond.instanceMethod yX4_chord ∈ wB := wIn 338 (by decide +kernel) rfl
theorem wSE_X4_X4_chord : Cond.selects RX4 yX4_chord yX4_chord ∈ wB := wIn 339 (by decide +kernel) rfl
theorem wCO_X4_chord : Cond.code yX4_chord cX4_chord 8 (some .int) ∈ wB := wIn 340 (by decide +kernel) rfl
theorem wSR_255 : Cond.stringRef RX4 255 "tick is less than 0" ∈ lw_tbl := List.mem_of_getElem? (i := 341) (by decide +kernel)
theorem wML_X4_257 : Cond.methodLink RX4 257 yJ13_bitCount_95d88 ∈ wB := wIn 342 (by decide +kernel) rfl
theorem wST_J13_bitCount_95d88 : Cond.static yJ13_bitCount_95d88 ∈ wB := wIn 343 (by decide +kernel) rfl
theorem wCO_J13_bitCount_95d88 : Cond.code yJ13_bitCount_95d88 cJ13_bitCount_95d88 2 (some .int) ∈ wB := wIn 344 (by decide +kernel) rfl
theorem wconstantLong_J13_314 : Cond.constantLong RJ13 314 6148914691236517205 ∈ wB := wIn 345 (by decide +kernel) rfl
theorem wconstantLong_J13_316 : Cond.constantLong RJ13 316 3689348814741910323 ∈ wB := wIn 346 (by decide +kernel) rfl
theorem wconstantLong_J13_318 : Cond.constantLong RJ13 318 1085102592571150095 ∈ wB := wIn 347 (by decide +kernel) rfl
theorem wML_L_132 : Cond.methodLink RL 132 yX4_longest ∈ wB := wIn 348 (by decide +kernel) rfl
theorem wIM_X4_longest : Cond.instanceMethod yX4_longest ∈ wB := wIn 349 (by decide +kernel) rfl
theorem wSE_X4_X4_longest : Cond.selects RX4 yX4_longest yX4_longest ∈ wB := wIn 350 (by decide +kernel) rfl
theorem wCO_X4_longest : Cond.code yX4_longest cX4_longest 6 (some .int) ∈ wB := wIn 351 (by decide +kernel) rfl
theorem wML_L_136 : Cond.methodLink RL 136 yX4_emptySongs ∈ wB := wIn 352 (by decide +kernel) rfl
theorem wIM_X4_emptySongs : Cond.instanceMethod yX4_emptySongs ∈ wB := wIn 353 (by decide +kernel) rfl
theorem wSE_X4_X4_emptySongs : Cond.selects RX4 yX4_emptySongs yX4_emptySongs ∈ wB := wIn 354 (by decide +kernel) rfl
theorem wCO_X4_emptySongs : Cond.code yX4_emptySongs cX4_emptySongs 2 (some .int) ∈ wB := wIn 355 (by decide +kernel) rfl
theorem wML_X4_265 : Cond.methodLink RX4 265 yX2_clearAll ∈ wB := wIn 356 (by decide +kernel) rfl
theorem wIM_X2_clearAll : Cond.instanceMethod yX2_clearAll ∈ wB := wIn 357 (by decide +kernel) rfl
theorem wSE_X2_X2_clearAll : Cond.selects RX2 yX2_clearAll yX2_clearAll ∈ wB := wIn 358 (by decide +kernel) rfl
theorem wCO_X2_clearAll : Cond.code yX2_clearAll cX2_clearAll 1 none ∈ wB := wIn 359 (by decide +kernel) rfl
theorem wML_L_18 : Cond.methodLink RL 18 yL_below ∈ wB := wIn 360 (by decide +kernel) rfl
theorem wST_L_below : Cond.static yL_below ∈ wB := wIn 361 (by decide +kernel) rfl
theorem wCO_L_below : Cond.code yL_below cL_below 2 (some .int) ∈ wB := wIn 362 (by decide +kernel) rfl
theorem wconstant_L_7 : Cond.constant RL 7 2147483647 ∈ wB := wIn 363 (by decide +kernel) rfl
theorem wML_L_12 : Cond.methodLink RL 12 yL_cell ∈ wB := wIn 364 (by decide +kernel) rfl
theorem wST_L_cell : Cond.static yL_cell ∈ wB := wIn 365 (by decide +kernel) rfl
theorem wCO_L_cell : Cond.code yL_cell cL_cell 2 (some .int) ∈ wB := wIn 366 (by decide +kernel) rfl
theorem wconstant_L_8 : Cond.constant RL 8 790386105 ∈ wB := wIn 367 (by decide +kernel) rfl
theorem wML_L_97 : Cond.methodLink RL 97 yL_build ∈ wB := wIn 368 (by decide +kernel) rfl
theorem wST_L_build : Cond.static yL_build ∈ wB := wIn 369 (by decide +kernel) rfl
theorem wCO_L_build : Cond.code yL_build cL_build 19 (some (.object "BirdParlourLaw$Sim")) ∈ wB := wIn 370 rfl rfl
theorem wCL_L_9 : Cond.classLink RL 9 RX6 ∈ wB := wIn 371 (by decide +kernel) rfl
theorem wIS_X6 : Cond.instantiable RX6 6 ∈ wB := wIn 372 (by decide +kernel) rfl
theorem wMN_L_11 : Cond.methodLinkNest RL 11 yX6_init "BirdParlourLaw" ∈ lw_tbl := List.mem_of_getElem? (i := 373) (by decide +kernel)
theorem wIM_X6_init : Cond.instanceMethod yX6_init ∈ wB := wIn 374 (by decide +kernel) rfl
theorem wCO_X6_init : Cond.code yX6_init cX6_init 1 none ∈ wB := wIn 375 (by decide +kernel) rfl
theorem wML_X6_1 : Cond.methodLink RX6 1 objectInit ∈ wB := wIn 376 (by decide +kernel) rfl
theorem wCL_X6_7 : Cond.classLink RX6 7 "[I" ∈ wB := wIn 377 (by decide +kernel) rfl
theorem warrayOver___array__int_ : Cond.arrayOver (.array .int) ∈ lw_tbl := List.mem_of_getElem? (i := 378) (by decide +kernel)
theorem wCL_X6_15 : Cond.classLink RX6 15 "[[Z" ∈ wB := wIn 379 (by decide +kernel) rfl
theorem warrayOver___array__boolean_ : Cond.arrayOver (.array .boolean) ∈ lw_tbl := List.mem_of_getElem? (i := 380) (by decide +kernel)
theorem wCL_X6_20 : Cond.classLink RX6 20 RX5 ∈ wB := wIn 381 (by decide +kernel) rfl
theorem warrayOver___object__BirdParlourLaw_Bird__ : Cond.arrayOver (.object "BirdParlourLaw$Bird") ∈ lw_tbl := List.mem_of_getElem? (i := 382) (by decide +kernel)
theorem wFL_X6_9 : Cond.fieldLink RX6 9 RX6 "springs" "[[I" ∈ wB := wIn 383 (by decide +kernel) rfl
theorem wFL_L_31 : Cond.fieldLink RL 31 RX6 "springs" "[[I" ∈ wB := wIn 384 (by decide +kernel) rfl
theorem wFL_X6_17 : Cond.fieldLink RX6 17 RX6 "coupled" "[[Z" ∈ wB := wIn 385 (by decide +kernel) rfl
theorem wFL_L_41 : Cond.fieldLink RL 41 RX6 "coupled" "[[Z" ∈ wB := wIn 386 (by decide +kernel) rfl
theorem wFL_X6_22 : Cond.fieldLink RX6 22 RX6 "birds" "[LBirdParlourLaw$Bird;" ∈ wB := wIn 387 (by decide +kernel) rfl
theorem wFL_L_92 : Cond.fieldLink RL 92 RX6 "birds" "[LBirdParlourLaw$Bird;" ∈ wB := wIn 388 (by decide +kernel) rfl
theorem wFL_X6_26 : Cond.fieldLink RX6 26 RX6 "songs" "[[I" ∈ wB := wIn 389 (by decide +kernel) rfl
theorem warrayClass__boolean : Cond.arrayClass .boolean ∈ wB := wIn 403 (by decide +kernel) rfl
theorem wML_L_22 : Cond.methodLink RL 22 yX4_addSpring ∈ wB := wIn 404 (by decide +kernel) rfl
theorem wIM_X4_addSpring : Cond.instanceMethod yX4_addSpring ∈ wB := wIn 405 (by decide +kernel) rfl
theorem wSE_X4_X4_addSpring : Cond.selects RX4 yX4_addSpring yX4_addSpring ∈ wB := wIn 406 (by decide +kernel) rfl
theorem wCO_X4_addSpring : Cond.code yX4_addSpring cX4_addSpring 3 (some .int) ∈ wB := wIn 407 (by decide +kernel) rfl
theorem wSR_34 : Cond.stringRef RX4 34 "strength is not 1 to 50" ∈ lw_tbl := List.mem_of_getElem? (i := 408) (by decide +kernel)
theorem wCL_X4_43 : Cond.classLink RX4 43 "java/lang/IllegalStateException" ∈ wB := wIn 409 (by decide +kernel) rfl
theorem wCA_java_lang_IllegalStateException_java_lang_IllegalStateException : Cond.castable "java/lang/IllegalStateException" "java/lang/IllegalStateException" ∈ lw_tbl := List.mem_of_getElem? (i := 411) (by decide +kernel)
theorem wSR_45 : Cond.stringRef RX4 45 "there are 4 springs" ∈ lw_tbl := List.mem_of_getElem? (i := 418) (by decide +kernel)
theorem wML_X4_47 : Cond.methodLink RX4 47 ⟨"java/lang/IllegalStateException", "<init>", "(Ljava/lang/String;)V"⟩ ∈ wB := wIn 419 (by decide +kernel) rfl
theorem wIS_X3 : Cond.instantiable RX3 8 ∈ wB := wIn 425 (by decide +kernel) rfl
theorem wML_X4_48 : Cond.methodLink RX4 48 yX3_init ∈ wB := wIn 426 (by decide +kernel) rfl
theorem wIM_X3_init : Cond.instanceMethod yX3_init ∈ wB := wIn 427 (by decide +kernel) rfl
theorem wCO_X3_init : Cond.code yX3_init cX3_init 2 none ∈ wB := wIn 428 (by decide +kernel) rfl
theorem wML_X3_3 : Cond.methodLink RX3 3 objectInit ∈ wB := wIn 429 (by decide +kernel) rfl
theorem wFL_X3_9 : Cond.fieldLink RX3 9 RX3 "strength" "I" ∈ wB := wIn 430 (by decide +kernel) rfl
theorem wFL_X4_90 : Cond.fieldLink RX4 90 RX3 "strength" "I" ∈ wB := wIn 431 (by decide +kernel) rfl
theorem wFL_X4_63 : Cond.fieldLink RX4 63 RX3 "held" "I" ∈ wB := wIn 432 (by decide +kernel) rfl
theorem wFL_X3_15 : Cond.fieldLink RX3 15 RX3 "held" "I" ∈ wB := wIn 433 (by decide +kernel) rfl
theorem wFL_X3_21 : Cond.fieldLink RX3 21 RX3 "shaft" "J" ∈ wB := wIn 434 (by decide +kernel) rfl
theorem wFL_X4_93 : Cond.fieldLink RX4 93 RX3 "shaft" "J" ∈ wB := wIn 435 (by decide +kernel) rfl
theorem wFL_X3_28 : Cond.fieldLink RX3 28 RX3 "speed" "I" ∈ wB := wIn 436 (by decide +kernel) rfl
theorem wFL_X4_97 : Cond.fieldLink RX4 97 RX3 "speed" "I" ∈ wB := wIn 437 (by decide +kernel) rfl
theorem wFL_X4_72 : Cond.fieldLink RX4 72 RX3 "isBraked" "Z" ∈ wB := wIn 438 (by decide +kernel) rfl
theorem wML_L_35 : Cond.methodLink RL 35 yX5_with ∈ wB := wIn 456 (by decide +kernel) rfl
theorem wST_X5_with : Cond.static yX5_with ∈ wB := wIn 457 (by decide +kernel) rfl
theorem wCO_X5_with : Cond.code yX5_with cX5_with 4 (some (.array (.array .int))) ∈ wB := wIn 458 (by decide +kernel) rfl
theorem wCL_X5_13 : Cond.classLink RX5 13 "[I" ∈ wB := wIn 459 (by decide +kernel) rfl
theorem wML_L_45 : Cond.methodLink RL 45 yX4_couple ∈ wB := wIn 460 (by decide +kernel) rfl
theorem wIM_X4_couple : Cond.instanceMethod yX4_couple ∈ wB := wIn 461 (by decide +kernel) rfl
theorem wSE_X4_X4_couple : Cond.selects RX4 yX4_couple yX4_couple ∈ wB := wIn 462 (by decide +kernel) rfl
theorem wCO_X4_couple : Cond.code yX4_couple cX4_couple 5 (some .int) ∈ wB := wIn 463 (by decide +kernel) rfl
theorem wSR_76 : Cond.stringRef RX4 76 "both are the same spring" ∈ lw_tbl := List.mem_of_getElem? (i := 464) (by decide +kernel)
theorem wCL_L_36 : Cond.classLink RL 36 RX5 ∈ wB := wIn 465 (by decide +kernel) rfl
theorem wIS_X5 : Cond.instantiable RX5 12 ∈ wB := wIn 466 (by decide +kernel) rfl
theorem wMN_L_49 : Cond.methodLinkNest RL 49 yX5_init "BirdParlourLaw" ∈ lw_tbl := List.mem_of_getElem? (i := 467) (by decide +kernel)
theorem wIM_X5_init : Cond.instanceMethod yX5_init ∈ wB := wIn 468 (by decide +kernel) rfl
theorem wCO_X5_init : Cond.code yX5_init cX5_init 1 none ∈ wB := wIn 469 (by decide +kernel) rfl
theorem wML_X5_1 : Cond.methodLink RX5 1 objectInit ∈ wB := wIn 470 (by decide +kernel) rfl
theorem wCL_X5_19 : Cond.classLink RX5 19 "[[[I" ∈ wB := wIn 471 (by decide +kernel) rfl
theorem warrayOver___array___array__int__ : Cond.arrayOver (.array (.array .int)) ∈ lw_tbl := List.mem_of_getElem? (i := 472) (by decide +kernel)
theorem wFL_L_50 : Cond.fieldLink RL 50 RX5 "spring" "I" ∈ wB := wIn 473 (by decide +kernel) rfl
theorem wFL_L_54 : Cond.fieldLink RL 54 RX5 "weight" "I" ∈ wB := wIn 474 (by decide +kernel) rfl
theorem wFL_L_57 : Cond.fieldLink RL 57 RX5 "n" "I" ∈ wB := wIn 475 (by decide +kernel) rfl
theorem wFL_L_60 : Cond.fieldLink RL 60 RX5 "p" "I" ∈ wB := wIn 476 (by decide +kernel) rfl
theorem wFL_L_63 : Cond.fieldLink RL 63 RX5 "q" "I" ∈ wB := wIn 477 (by decide +kernel) rfl
theorem wFL_X5_7 : Cond.fieldLink RX5 7 RX5 "isOn" "Z" ∈ wB := wIn 478 (by decide +kernel) rfl
theorem wFL_X5_15 : Cond.fieldLink RX5 15 RX5 "pins" "[[I" ∈ wB := wIn 479 (by decide +kernel) rfl
theorem wFL_L_70 : Cond.fieldLink RL 70 RX5 "pins" "[[I" ∈ wB := wIn 480 (by decide +kernel) rfl
theorem wFL_X5_21 : Cond.fieldLink RX5 21 RX5 "cams" "[[[I" ∈ wB := wIn 481 (by decide +kernel) rfl
theorem wFL_L_77 : Cond.fieldLink RL 77 RX5 "cams" "[[[I" ∈ wB := wIn 482 (by decide +kernel) rfl
theorem wFL_X5_24 : Cond.fieldLink RX5 24 RX5 "notes" "[I" ∈ wB := wIn 483 (by decide +kernel) rfl
theorem wFL_L_88 : Cond.fieldLink RL 88 RX5 "notes" "[I" ∈ wB := wIn 484 (by decide +kernel) rfl
theorem wML_L_66 : Cond.methodLink RL 66 yX4_addBird ∈ wB := wIn 510 (by decide +kernel) rfl
theorem wIM_X4_addBird : Cond.instanceMethod yX4_addBird ∈ wB := wIn 511 (by decide +kernel) rfl
theorem wSE_X4_X4_addBird : Cond.selects RX4 yX4_addBird yX4_addBird ∈ wB := wIn 512 (by decide +kernel) rfl
theorem wCO_X4_addBird : Cond.code yX4_addBird cX4_addBird 8 (some .int) ∈ wB := wIn 513 (by decide +kernel) rfl
theorem wSR_108 : Cond.stringRef RX4 108 "weight is not 0 to 20" ∈ lw_tbl := List.mem_of_getElem? (i := 514) (by decide +kernel)
theorem wSR_110 : Cond.stringRef RX4 110 "places is not 8 to 96" ∈ lw_tbl := List.mem_of_getElem? (i := 515) (by decide +kernel)
theorem wSR_112 : Cond.stringRef RX4 112 "p or q is not 1 to 12" ∈ lw_tbl := List.mem_of_getElem? (i := 516) (by decide +kernel)
theorem wSR_117 : Cond.stringRef RX4 117 "there are 8 birds" ∈ lw_tbl := List.mem_of_getElem? (i := 517) (by decide +kernel)
theorem wIS_X0 : Cond.instantiable RX0 15 ∈ wB := wIn 518 (by decide +kernel) rfl
theorem wML_X4_119 : Cond.methodLink RX4 119 yX0_init ∈ wB := wIn 519 (by decide +kernel) rfl
theorem wIM_X0_init : Cond.instanceMethod yX0_init ∈ wB := wIn 520 (by decide +kernel) rfl
theorem wCO_X0_init : Cond.code yX0_init cX0_init 9 none ∈ wB := wIn 521 (by decide +kernel) rfl
theorem wML_X0_3 : Cond.methodLink RX0 3 objectInit ∈ wB := wIn 522 (by decide +kernel) rfl
theorem wCL_X0_18 : Cond.classLink RX0 18 RX1 ∈ wB := wIn 523 (by decide +kernel) rfl
theorem warrayOver___object__BirdParlour_Cam__ : Cond.arrayOver (.object "BirdParlour$Cam") ∈ lw_tbl := List.mem_of_getElem? (i := 524) (by decide +kernel)
theorem wIS_X1 : Cond.instantiable RX1 3 ∈ wB := wIn 525 (by decide +kernel) rfl
theorem wMN_X0_48 : Cond.methodLinkNest RX0 48 yX1_init "BirdParlour" ∈ lw_tbl := List.mem_of_getElem? (i := 526) (by decide +kernel)
theorem wIM_X1_init : Cond.instanceMethod yX1_init ∈ wB := wIn 527 (by decide +kernel) rfl
theorem wCO_X1_init : Cond.code yX1_init cX1_init 1 none ∈ wB := wIn 528 (by decide +kernel) rfl
theorem wML_X1_3 : Cond.methodLink RX1 3 objectInit ∈ wB := wIn 529 (by decide +kernel) rfl
theorem wFL_X1_9 : Cond.fieldLink RX1 9 RX1 "marks" "[I" ∈ wB := wIn 530 (by decide +kernel) rfl
theorem wFL_X1_15 : Cond.fieldLink RX1 15 RX1 "lifts" "[I" ∈ wB := wIn 531 (by decide +kernel) rfl
theorem wFL_X0_90 : Cond.fieldLink RX0 90 RX1 "lifts" "[I" ∈ wB := wIn 532 (by decide +kernel) rfl
theorem wFL_X4_226 : Cond.fieldLink RX4 226 RX1 "lifts" "[I" ∈ wB := wIn 533 (by decide +kernel) rfl
theorem wFL_X1_26 : Cond.fieldLink RX1 26 RX1 "points" "I" ∈ wB := wIn 534 (by decide +kernel) rfl
theorem wFL_X4_188 : Cond.fieldLink RX4 188 RX1 "points" "I" ∈ wB := wIn 535 (by decide +kernel) rfl
theorem wFL_X0_24 : Cond.fieldLink RX0 24 RX0 "spring" "I" ∈ wB := wIn 543 (by decide +kernel) rfl
theorem wFL_X4_131 : Cond.fieldLink RX4 131 RX0 "spring" "I" ∈ wB := wIn 544 (by decide +kernel) rfl
theorem wFL_X0_28 : Cond.fieldLink RX0 28 RX0 "weight" "I" ∈ wB := wIn 545 (by decide +kernel) rfl
theorem wFL_X4_203 : Cond.fieldLink RX4 203 RX0 "weight" "I" ∈ wB := wIn 546 (by decide +kernel) rfl
theorem wFL_X0_31 : Cond.fieldLink RX0 31 RX0 "places" "I" ∈ wB := wIn 547 (by decide +kernel) rfl
theorem wFL_X4_193 : Cond.fieldLink RX4 193 RX0 "places" "I" ∈ wB := wIn 548 (by decide +kernel) rfl
theorem wFL_X0_34 : Cond.fieldLink RX0 34 RX0 "p" "I" ∈ wB := wIn 549 (by decide +kernel) rfl
theorem wFL_X4_206 : Cond.fieldLink RX4 206 RX0 "p" "I" ∈ wB := wIn 550 (by decide +kernel) rfl
theorem wFL_X0_37 : Cond.fieldLink RX0 37 RX0 "q" "I" ∈ wB := wIn 551 (by decide +kernel) rfl
theorem wFL_X4_209 : Cond.fieldLink RX4 209 RX0 "q" "I" ∈ wB := wIn 552 (by decide +kernel) rfl
theorem wFL_X0_9 : Cond.fieldLink RX0 9 RX0 "levers" "[I" ∈ wB := wIn 553 (by decide +kernel) rfl
theorem wFL_X4_331 : Cond.fieldLink RX4 331 RX0 "levers" "[I" ∈ wB := wIn 554 (by decide +kernel) rfl
theorem wFL_X0_15 : Cond.fieldLink RX0 15 RX0 "notes" "[I" ∈ wB := wIn 555 (by decide +kernel) rfl
theorem wFL_X4_161 : Cond.fieldLink RX4 161 RX0 "notes" "[I" ∈ wB := wIn 556 (by decide +kernel) rfl
theorem wFL_X0_20 : Cond.fieldLink RX0 20 RX0 "cams" "[LBirdParlour$Cam;" ∈ wB := wIn 557 (by decide +kernel) rfl
theorem wFL_X4_150 : Cond.fieldLink RX4 150 RX0 "pins" "I" ∈ wB := wIn 558 (by decide +kernel) rfl
theorem wFL_X0_75 : Cond.fieldLink RX0 75 RX0 "pins" "I" ∈ wB := wIn 559 (by decide +kernel) rfl
theorem wFL_X0_40 : Cond.fieldLink RX0 40 RX0 "isEngaged" "Z" ∈ wB := wIn 560 (by decide +kernel) rfl
theorem wFL_X4_128 : Cond.fieldLink RX4 128 RX0 "isEngaged" "Z" ∈ wB := wIn 561 (by decide +kernel) rfl
theorem wFL_X0_44 : Cond.fieldLink RX0 44 RX0 "shaftAtStart" "J" ∈ wB := wIn 562 (by decide +kernel) rfl
theorem wFL_X0_49 : Cond.fieldLink RX0 49 RX0 "gone" "J" ∈ wB := wIn 563 (by decide +kernel) rfl
theorem wFL_X4_216 : Cond.fieldLink RX4 216 RX0 "gone" "J" ∈ wB := wIn 564 (by decide +kernel) rfl
theorem wFL_X4_219 : Cond.fieldLink RX4 219 RX0 "sounded" "I" ∈ wB := wIn 565 (by decide +kernel) rfl
theorem wML_L_73 : Cond.methodLink RL 73 yX4_pin ∈ wB := wIn 597 (by decide +kernel) rfl
theorem wIM_X4_pin : Cond.instanceMethod yX4_pin ∈ wB := wIn 598 (by decide +kernel) rfl
theorem wSE_X4_X4_pin : Cond.selects RX4 yX4_pin yX4_pin ∈ wB := wIn 599 (by decide +kernel) rfl
theorem wCO_X4_pin : Cond.code yX4_pin cX4_pin 5 (some .int) ∈ wB := wIn 600 (by decide +kernel) rfl
theorem wSR_142 : Cond.stringRef RX4 142 "place is not on the barrel" ∈ lw_tbl := List.mem_of_getElem? (i := 601) (by decide +kernel)
theorem wSR_144 : Cond.stringRef RX4 144 "lever is not 0 to 5" ∈ lw_tbl := List.mem_of_getElem? (i := 602) (by decide +kernel)
theorem wSR_153 : Cond.stringRef RX4 153 "there are 24 pins" ∈ lw_tbl := List.mem_of_getElem? (i := 603) (by decide +kernel)
theorem wML_X4_155 : Cond.methodLink RX4 155 yX0_turnPin ∈ wB := wIn 604 (by decide +kernel) rfl
theorem wIM_X0_turnPin : Cond.instanceMethod yX0_turnPin ∈ wB := wIn 605 (by decide +kernel) rfl
theorem wSE_X0_X0_turnPin : Cond.selects RX0 yX0_turnPin yX0_turnPin ∈ wB := wIn 606 (by decide +kernel) rfl
theorem wCO_X0_turnPin : Cond.code yX0_turnPin cX0_turnPin 3 none ∈ wB := wIn 607 (by decide +kernel) rfl
theorem wML_X0_78 : Cond.methodLink RX0 78 yX0_hasPin ∈ wB := wIn 608 (by decide +kernel) rfl
theorem wMN_X0_82 : Cond.methodLinkNest RX0 82 yX4_put "BirdParlour" ∈ lw_tbl := List.mem_of_getElem? (i := 609) (by decide +kernel)
theorem wML_L_81 : Cond.methodLink RL 81 yX4_point ∈ wB := wIn 610 (by decide +kernel) rfl
theorem wIM_X4_point : Cond.instanceMethod yX4_point ∈ wB := wIn 611 (by decide +kernel) rfl
theorem wSE_X4_X4_point : Cond.selects RX4 yX4_point yX4_point ∈ wB := wIn 612 (by decide +kernel) rfl
theorem wCO_X4_point : Cond.code yX4_point cX4_point 8 (some .int) ∈ wB := wIn 613 (by decide +kernel) rfl
theorem wSR_179 : Cond.stringRef RX4 179 "lift is not -1 to 100" ∈ lw_tbl := List.mem_of_getElem? (i := 614) (by decide +kernel)
theorem wML_X4_181 : Cond.methodLink RX4 181 yX1_hasPoint ∈ wB := wIn 615 (by decide +kernel) rfl
theorem wIM_X1_hasPoint : Cond.instanceMethod yX1_hasPoint ∈ wB := wIn 616 (by decide +kernel) rfl
theorem wSE_X1_X1_hasPoint : Cond.selects RX1 yX1_hasPoint yX1_hasPoint ∈ wB := wIn 617 (by decide +kernel) rfl
theorem wCO_X1_hasPoint : Cond.code yX1_hasPoint cX1_hasPoint 2 (some .boolean) ∈ wB := wIn 618 (by decide +kernel) rfl
theorem wMN_X1_18 : Cond.methodLinkNest RX1 18 yX4_at "BirdParlour" ∈ lw_tbl := List.mem_of_getElem? (i := 619) (by decide +kernel)
theorem wSR_186 : Cond.stringRef RX4 186 "there is no point to take away" ∈ lw_tbl := List.mem_of_getElem? (i := 620) (by decide +kernel)
theorem wSR_191 : Cond.stringRef RX4 191 "the cam has 8 points" ∈ lw_tbl := List.mem_of_getElem? (i := 621) (by decide +kernel)
theorem wML_X4_196 : Cond.methodLink RX4 196 yX1_takePoint ∈ wB := wIn 622 (by decide +kernel) rfl
theorem wIM_X1_takePoint : Cond.instanceMethod yX1_takePoint ∈ wB := wIn 623 (by decide +kernel) rfl
theorem wSE_X1_X1_takePoint : Cond.selects RX1 yX1_takePoint yX1_takePoint ∈ wB := wIn 624 (by decide +kernel) rfl
theorem wCO_X1_takePoint : Cond.code yX1_takePoint cX1_takePoint 3 none ∈ wB := wIn 625 (by decide +kernel) rfl
theorem wML_X1_22 : Cond.methodLink RX1 22 yX1_hasPoint ∈ wB := wIn 626 (by decide +kernel) rfl
theorem wMN_X1_30 : Cond.methodLinkNest RX1 30 yX4_put "BirdParlour" ∈ lw_tbl := List.mem_of_getElem? (i := 627) (by decide +kernel)
theorem wML_X1_34 : Cond.methodLink RX1 34 yX1_draw ∈ wB := wIn 628 (by decide +kernel) rfl
theorem wIM_X1_draw : Cond.instanceMethod yX1_draw ∈ wB := wIn 629 (by decide +kernel) rfl
theorem wSE_X1_X1_draw : Cond.selects RX1 yX1_draw yX1_draw ∈ wB := wIn 630 (by decide +kernel) rfl
theorem wCO_X1_draw : Cond.code yX1_draw cX1_draw 3 none ∈ wB := wIn 631 (by decide +kernel) rfl
theorem wML_X1_38 : Cond.methodLink RX1 38 yX1_drawBehind ∈ wB := wIn 632 (by decide +kernel) rfl
theorem wIM_X1_drawBehind : Cond.instanceMethod yX1_drawBehind ∈ wB := wIn 633 (by decide +kernel) rfl
theorem wSE_X1_X1_drawBehind : Cond.selects RX1 yX1_drawBehind yX1_drawBehind ∈ wB := wIn 634 (by decide +kernel) rfl
theorem wCO_X1_drawBehind : Cond.code yX1_drawBehind cX1_drawBehind 7 none ∈ wB := wIn 635 (by decide +kernel) rfl
theorem wMN_X1_42 : Cond.methodLinkNest RX1 42 yX4_remainder "BirdParlour" ∈ lw_tbl := List.mem_of_getElem? (i := 636) (by decide +kernel)
theorem wST_X4_remainder : Cond.static yX4_remainder ∈ wB := wIn 637 (by decide +kernel) rfl
theorem wCO_X4_remainder : Cond.code yX4_remainder cX4_remainder 2 (some .int) ∈ wB := wIn 638 (by decide +kernel) rfl
theorem wML_X1_46 : Cond.methodLink RX1 46 yJ9_floorDiv_7cf53 ∈ wB := wIn 639 (by decide +kernel) rfl
theorem wST_J9_floorDiv_7cf53 : Cond.static yJ9_floorDiv_7cf53 ∈ wB := wIn 640 (by decide +kernel) rfl
theorem wCO_J9_floorDiv_7cf53 : Cond.code yJ9_floorDiv_7cf53 cJ9_floorDiv_7cf53 3 (some .int) ∈ wB := wIn 641 (by decide +kernel) rfl
theorem wML_X4_199 : Cond.methodLink RX4 199 yX1_layPoint ∈ wB := wIn 642 (by decide +kernel) rfl
theorem wIM_X1_layPoint : Cond.instanceMethod yX1_layPoint ∈ wB := wIn 643 (by decide +kernel) rfl
theorem wSE_X1_X1_layPoint : Cond.selects RX1 yX1_layPoint yX1_layPoint ∈ wB := wIn 644 (by decide +kernel) rfl
theorem wCO_X1_layPoint : Cond.code yX1_layPoint cX1_layPoint 4 none ∈ wB := wIn 645 (by decide +kernel) rfl
theorem wML_L_85 : Cond.methodLink RL 85 yX4_tune ∈ wB := wIn 646 (by decide +kernel) rfl
theorem wIM_X4_tune : Cond.instanceMethod yX4_tune ∈ wB := wIn 647 (by decide +kernel) rfl
theorem wSE_X4_X4_tune : Cond.selects RX4 yX4_tune yX4_tune ∈ wB := wIn 648 (by decide +kernel) rfl
theorem wCO_X4_tune : Cond.code yX4_tune cX4_tune 6 (some .int) ∈ wB := wIn 649 (by decide +kernel) rfl
theorem wSR_159 : Cond.stringRef RX4 159 "note is not 0 to 87" ∈ lw_tbl := List.mem_of_getElem? (i := 650) (by decide +kernel)
theorem wML_X4_169 : Cond.methodLink RX4 169 yX4_put ∈ wB := wIn 651 (by decide +kernel) rfl
theorem wML_L_123 : Cond.methodLink RL 123 Lib.Math.max.name ∈ wB := wIn 652 (by decide +kernel) rfl
theorem wML_L_110 : Cond.methodLink RL 110 Lib.Math.min.name ∈ wB := wIn 653 (by decide +kernel) rfl
theorem wconstant_L_109 : Cond.constant RL 109 200000 ∈ wB := wIn 654 (by decide +kernel) rfl
theorem wconstantLong_L_118 : Cond.constantLong RL 118 1000 ∈ wB := wIn 655 (by decide +kernel) rfl
theorem warrayClass__long : Cond.arrayClass .long ∈ wB := wIn 656 (by decide +kernel) rfl
theorem inX0_B : ∀ w ∈ wsX00, w ∈ wB := by
  intro w hw
  obtain ⟨k, hk, rfl⟩ := List.mem_map.mp hw
  have hk := List.mem_range.mp hk
  match k, hk with
  | 0, _ => exact wIn 566 (by decide +kernel) rfl
  | 1, _ => exact wIn 568 (by decide +kernel) rfl
  | 2, _ => exact wIn 570 (by decide +kernel) rfl
  | 3, _ => exact wIn 572 (by decide +kernel) rfl
  | 4, _ => exact wIn 574 (by decide +kernel) rfl
  | 5, _ => exact wIn 576 (by decide +kernel) rfl
  | 6, _ => exact wIn 578 (by decide +kernel) rfl
  | 7, _ => exact wIn 580 (by decide +kernel) rfl
  | 8, _ => exact wIn 582 (by decide +kernel) rfl
  | 9, _ => exact wIn 584 (by decide +kernel) rfl
  | 10, _ => exact wIn 586 (by decide +kernel) rfl
  | 11, _ => exact wIn 588 (by decide +kernel) rfl
  | 12, _ => exact wIn 590 (by decide +kernel) rfl
  | 13, _ => exact wIn 592 (by decide +kernel) rfl
  | 14, _ => exact wIn 594 (by decide +kernel) rfl
  | k + 15, hk => exact absurd hk (by omega)
theorem inX1_B : ∀ w ∈ wsX10, w ∈ wB := by
  intro w hw
  obtain ⟨k, hk, rfl⟩ := List.mem_map.mp hw
  have hk := List.mem_range.mp hk
  match k, hk with
  | 0, _ => exact wIn 536 (by decide +kernel) rfl
  | 1, _ => exact wIn 538 (by decide +kernel) rfl
  | 2, _ => exact wIn 540 (by decide +kernel) rfl
  | k + 3, hk => exact absurd hk (by omega)
theorem inX2_B : ∀ w ∈ wsX20, w ∈ wB := by
  intro w hw
  obtain ⟨k, hk, rfl⟩ := List.mem_map.mp hw
  have hk := List.mem_range.mp hk
  match k, hk with
  | 0, _ => exact wIn 51 (by decide +kernel) rfl
  | 1, _ => exact wIn 53 (by decide +kernel) rfl
  | 2, _ => exact wIn 55 (by decide +kernel) rfl
  | 3, _ => exact wIn 57 (by decide +kernel) rfl
  | 4, _ => exact wIn 59 (by decide +kernel) rfl
  | k + 5, hk => exact absurd hk (by omega)
theorem inX3_B : ∀ w ∈ wsX30, w ∈ wB := by
  intro w hw
  obtain ⟨k, hk, rfl⟩ := List.mem_map.mp hw
  have hk := List.mem_range.mp hk
  match k, hk with
  | 0, _ => exact wIn 439 (by decide +kernel) rfl
  | 1, _ => exact wIn 441 (by decide +kernel) rfl
  | 2, _ => exact wIn 443 (by decide +kernel) rfl
  | 3, _ => exact wIn 445 (by decide +kernel) rfl
  | 4, _ => exact wIn 447 (by decide +kernel) rfl
  | 5, _ => exact wIn 449 (by decide +kernel) rfl
  | 6, _ => exact wIn 451 (by decide +kernel) rfl
  | 7, _ => exact wIn 453 (by decide +kernel) rfl
  | k + 8, hk => exact absurd hk (by omega)
theorem inX4_B : ∀ w ∈ wsX40, w ∈ wB := by
  intro w hw
  obtain ⟨k, hk, rfl⟩ := List.mem_map.mp hw
  have hk := List.mem_range.mp hk
  match k, hk with
  | 0, _ => exact wIn 70 (by decide +kernel) rfl
  | 1, _ => exact wIn 72 (by decide +kernel) rfl
  | 2, _ => exact wIn 74 (by decide +kernel) rfl
  | 3, _ => exact wIn 76 (by decide +kernel) rfl
  | 4, _ => exact wIn 78 (by decide +kernel) rfl
  | 5, _ => exact wIn 80 (by decide +kernel) rfl
  | 6, _ => exact wIn 82 (by decide +kernel) rfl
  | k + 7, hk => exact absurd hk (by omega)
theorem inX5_B : ∀ w ∈ wsX50, w ∈ wB := by
  intro w hw
  obtain ⟨k, hk, rfl⟩ := List.mem_map.mp hw
  have hk := List.mem_range.mp hk
  match k, hk with
  | 0, _ => exact wIn 485 (by decide +kernel) rfl
  | 1, _ => exact wIn 487 (by decide +kernel) rfl
  | 2, _ => exact wIn 489 (by decide +kernel) rfl
  | 3, _ => exact wIn 491 (by decide +kernel) rfl
  | 4, _ => exact wIn 493 (by decide +kernel) rfl
  | 5, _ => exact wIn 495 (by decide +kernel) rfl
  | 6, _ => exact wIn 497 (by decide +kernel) rfl
  | 7, _ => exact wIn 499 (by decide +kernel) rfl
  | 8, _ => exact wIn 501 (by decide +kernel) rfl
  | 9, _ => exact wIn 503 (by decide +kernel) rfl
  | 10, _ => exact wIn 505 (by decide +kernel) rfl
  | 11, _ => exact wIn 507 (by decide +kernel) rfl
  | k + 12, hk => exact absurd hk (by omega)
theorem inX6_B : ∀ w ∈ wsX60, w ∈ wB := by
  intro w hw
  obtain ⟨k, hk, rfl⟩ := List.mem_map.mp hw
  have hk := List.mem_range.mp hk
  match k, hk with
  | 0, _ => exact wIn 390 (by decide +kernel) rfl
  | 1, _ => exact wIn 392 (by decide +kernel) rfl
  | 2, _ => exact wIn 394 (by decide +kernel) rfl
  | 3, _ => exact wIn 396 (by decide +kernel) rfl
  | 4, _ => exact wIn 398 (by decide +kernel) rfl
  | 5, _ => exact wIn 400 (by decide +kernel) rfl
  | k + 6, hk => exact absurd hk (by omega)
theorem inX7_B : ∀ w ∈ wsX70, w ∈ wB := by
  intro w hw
  obtain ⟨k, hk, rfl⟩ := List.mem_map.mp hw
  have hk := List.mem_range.mp hk
  match k, hk with
  | k + 0, hk => exact absurd hk (by omega)
/-- a method's words: its own code, and all -/
noncomputable def ws_ (y : MethodName) (cc : ByteArray) (n : Nat) (r : Option FieldType) : List Cond := Cond.code y cc n r :: wB
noncomputable def wsW (y : MethodName) (cc : ByteArray) (n : Nat) (r : Option FieldType) (hh : List (Nat × Nat × Nat × Nat)) : List Cond := Cond.codeWith y cc n r hh :: wB
theorem ws_good {y : MethodName} {cc : ByteArray} {n : Nat} {r : Option FieldType} (h : Cond.code y cc n r ∈ wB) : GoodIn wB (ws_ y cc n r) := fun w hw => by
  rcases List.mem_cons.mp hw with rfl | h1
  · exact wB_good _ h
  · exact wB_good _ h1
theorem wsW_good {y : MethodName} {cc : ByteArray} {n : Nat} {r : Option FieldType} {hh : List (Nat × Nat × Nat × Nat)} (h : Cond.codeWith y cc n r hh ∈ wB) : GoodIn wB (wsW y cc n r hh) := fun w hw => by
  rcases List.mem_cons.mp hw with rfl | h1
  · exact wB_good _ h
  · exact wB_good _ h1
theorem gV {own C : String} {idx : Nat} {y : MethodName} {ws : List Cond} (hw : GoodIn wB ws) (h1 : Cond.methodLink own idx y ∈ wB) (h2 : Cond.instanceMethod y ∈ wB) (h3 : Cond.selects C y y ∈ wB) (h4 : Cond.initialized C ∈ wB) : GoodIn wB (wsV own idx C y ws) := fun w h => by
  rcases List.mem_append.mp h with h | h
  · simp only [List.mem_cons, List.not_mem_nil, or_false] at h
    rcases h with rfl | rfl | rfl | rfl
    · exact wB_good _ h1
    · exact wB_good _ h2
    · exact wB_good _ h3
    · exact wB_good _ h4
  · exact hw w h
theorem gS {own : String} {idx : Nat} {y : MethodName} {ws : List Cond} (hw : GoodIn wB ws) (h1 : Cond.methodLink own idx y ∈ wB) (h2 : Cond.static y ∈ wB) (h3 : Cond.initialized y.cls ∈ wB) : GoodIn wB (va_wsS own idx y ws) := fun w h => by
  rcases List.mem_append.mp h with h | h
  · simp only [List.mem_cons, List.not_mem_nil, or_false] at h
    rcases h with rfl | rfl | rfl
    · exact wB_good _ h1
    · exact wB_good _ h2
    · exact wB_good _ h3
  · exact hw w h
end
section
/-! THE WORLD BY ROLES: a cell is (kind, number); the state is two functions, kind, number, place ↦ value.
kinds: 0 the parlour, 1 its row of springs, 2 its row of birds, 3 the songs, 4 the kept notes, 5 a spring, 6 a bird, 7 its levers, 8 its notes, 9 its row of cams, 10 a cam (3 * bird + cam), 11 marks, 12 lifts.
Beside the roles: the law's own cells, by their addresses (the last part of Gx); contracts of the class keep them by being stated for every g. -/
abbrev Sg : Type := (Nat → Nat → Nat → Int32) × (Nat → Nat → Nat → Int64)
/-- springs, birds, addresses -/
abbrev Sh : Type := Nat × Nat × (Nat → Nat → Nat)
/-- classes; classes of arrays; texts; the law's classes of arrays (0 int[][], 1 int[][][], 2 boolean[][], 3 birds); the law's cells -/
abbrev Gx : Type := va_G × (ClassId × ClassId × ClassId × ClassId × ClassId × ClassId) × (Nat → Nat) × (Nat → ClassId) × (Nat → Option va_E)
def sI (σ : Sg) (k i f : Nat) (v : Int32) : Sg := (fun k' i' f' => if k' = k ∧ i' = i ∧ f' = f then v else σ.1 k' i' f', σ.2)
def sL (σ : Sg) (k i f : Nat) (v : Int64) : Sg := (σ.1, fun k' i' f' => if k' = k ∧ i' = i ∧ f' = f then v else σ.2 k' i' f')
def al (h : Sh) (k i : Nat) : Prop := (k ≤ 4 ∧ i = 0) ∨ (k = 5 ∧ i < h.1) ∨ (6 ≤ k ∧ k ≤ 9 ∧ i < h.2.1) ∨ (10 ≤ k ∧ k ≤ 12 ∧ i < 3 * h.2.1)
def aln (k : Nat) : Nat := if k = 4 then 1000 else if k = 7 then 96 else if k = 8 then 6 else if k = 11 then 96 else if k = 12 then 96 else 0
def iO (n j : Nat) : Option Nat := if j < n then some j else none
def spF (h : Sh) (j : Nat) : Option Nat := (iO h.1 j).map (h.2.2 5)
def bdF (h : Sh) (j : Nat) : Option Nat := (iO h.2.1 j).map (h.2.2 6)
def cmF (h : Sh) (i j : Nat) : Option Nat := if j < 3 then some (h.2.2 10 (3 * i + j)) else none
/-- what the cell of a role holds -/
def cF (g : Gx) (h : Sh) (I : Nat → Int32) (L : Nat → Int64) (k i : Nat) : va_E :=
  if aln k ≠ 0 then .inl (g.2.1.1, aln k, .inl I)
  else if k = 0 then .inr (4, [.ref (h.2.2 1 0), .ref (h.2.2 2 0), .ref (h.2.2 3 0), .int (I 3), .int (I 4), .int (I 5), .int (I 6)])
  else if k = 1 then .inl (g.2.1.2.2.2.1, 4, .inr (.inr (.inr (.inr (spF h)))))
  else if k = 2 then .inl (g.2.1.2.2.2.2.1, 8, .inr (.inr (.inr (.inr (bdF h)))))
  else if k = 3 then .inr (2, [.ref (h.2.2 4 0), .int (I 1), .int (I 2), .int (I 3), .int (I 4)])
  else if k = 5 then .inr (3, [.int (I 0), .int (I 1), .long (L 2), .int (I 3), .int (I 4), .int (I 5), .long (L 6), .int (I 7)])
  else if k = 6 then .inr (0, [.int (I 0), .int (I 1), .int (I 2), .int (I 3), .int (I 4), .ref (h.2.2 7 i), .ref (h.2.2 8 i), .ref (h.2.2 9 i), .int (I 8), .int (I 9), .long (L 10), .long (L 11), .int (I 12), .long (L 13), .int (I 14)])
  else if k = 9 then .inl (g.2.1.2.2.2.2.2, 3, .inr (.inr (.inr (.inr (cmF h i)))))
  else .inr (1, [.ref (h.2.2 11 i), .ref (h.2.2 12 i), .int (I 2)])
def ct (g : Gx) (h : Sh) (σ : Sg) (k i : Nat) : va_E := cF g h (σ.1 k i) (σ.2 k i) k i
/-- the law's cells in the pool, apart from the roles -/
def XW (X : Nat → Option va_E) (h : Sh) (L : List Nat) (f : Nat → va_E) : Prop := ∀ (q : Nat) (e : va_E), X q = some e → q ∈ L ∧ f q = e ∧ ∀ k i, al h k i → h.2.2 k i ≠ q
def FW (g : Gx) (h : Sh) (A : Nat → Prop) (σ : Sg) (H : Heap) : Prop :=
  ∃ (L : List Nat) (f : Nat → va_E), va_P g.1 vwCl (va_pl L f) H ∧ va_D A (va_pl L f) ∧ (∀ k i, al h k i → h.2.2 k i ∈ L ∧ f (h.2.2 k i) = ct g h σ k i) ∧ (∀ k i k' i', al h k i → al h k' i' → h.2.2 k i = h.2.2 k' i' → k = k' ∧ i = i') ∧ XW g.2.2.2.2 h L f
def tysG (g : Gx) : List (ClassId × FieldType) := [(g.2.1.1, .int), (g.2.1.2.1, .boolean), (g.2.1.2.2.1, .long), (g.2.1.2.2.2.1, .object RX3), (g.2.1.2.2.2.2.1, .object RX0), (g.2.1.2.2.2.2.2, .object RX1), (g.2.2.2.1 0, .array .int), (g.2.2.2.1 1, .array (.array .int)), (g.2.2.2.1 2, .array .boolean), (g.2.2.2.1 3, .object RX5)]
def nstW : List (String × Nat × MethodName × String) := [(RX4, 23, yX2_init, "BirdParlour"), (RX0, 71, yX4_at, "BirdParlour"), (RX0, 67, yX4_isIn, "BirdParlour"), (RX2, 28, yX4_put, "BirdParlour"), (RX2, 32, yX4_at, "BirdParlour"), (RL, 11, yX6_init, "BirdParlourLaw"), (RL, 49, yX5_init, "BirdParlourLaw"), (RX0, 48, yX1_init, "BirdParlour"), (RX0, 82, yX4_put, "BirdParlour"), (RX1, 18, yX4_at, "BirdParlour"), (RX1, 30, yX4_put, "BirdParlour"), (RX1, 42, yX4_remainder, "BirdParlour")]
def KW (g : Gx) (U : State) : Prop := va_K g.1 vwCl (tysG g) U ∧ (∀ q ∈ nstW, va_Nw (.methodLinkNest q.1 q.2.1 q.2.2.1 q.2.2.2) U) ∧ va_AO RX3 U ∧ va_AO RX0 U ∧ va_AO RX1 U ∧ va_AO RX5 U ∧ va_AOA .int U ∧ va_AOA .boolean U ∧ va_AOA (.array .int) U
def Ax (lo : Nat) : Nat → Prop := fun q => lo ≤ q
/-- nothing is wanted here (no call of this law throws) -/
def ZW (_ : Nat) (_ : State) (_ : Heap) : Prop := True
def WD (lo : Nat) (g : Gx) (h : Sh) (σ : Sg) (U : State) : Prop := lo ≤ U.heap.size ∧ FW g h (Ax lo) σ U.heap ∧ KW g U ∧ ZW lo U U.heap
theorem va_AOA.moved {t : FieldType} {u U : State} (hvm : u.vm.Alike U.vm) (h : va_AOA t u) : va_AOA t U := by
  obtain ⟨comp, c, k, h1, h2, h3, h4, h5⟩ := arrayOverA_spec (t := t) (va_AOA.use (A := #[]) h)
  obtain ⟨k', hk', he⟩ := hvm.2.2 _ _ h3
  have hi : (U.vm.classes.findIdx? fun (x : Class) => match x.kind with | .array component _ => component == comp | _ => false) = some c := by
    rw [hvm.findIdx?_eq _ (fun _ => rfl)]
    exact h2
  have hkind : k'.kind = .array comp (.array t) := by rw [he]; exact h4
  have f1 : U.vm.findClass (FieldType.array t).toString = some comp := by rw [hvm.findClass]; exact h1
  have f2 : U.vm.findClass ("[" ++ (FieldType.array t).toString) = some c := by rw [hvm.findClass]; exact h5
  unfold va_AOA Cond.before Cond.holds
  simp only [Cond.value]
  rw [f1, Option.bind_some]
  refine (congrArg (fun o : Option Nat => (o.bind (fun c => (U.vm.classes[c]?).map fun (k : Class) => match k.kind with | .array _ ty => decide (ty = FieldType.array t) && decide (U.vm.findClass ("[" ++ (FieldType.array t).toString) = some c) | _ => false) == some true)) hi).trans ?_
  simp [hk', hkind, f2]
theorem KW.warm {g : Gx} {s U : State} (hW : s.WarmedH U.vm) (h : KW g s) : KW g U :=
  ⟨va_K.moved hW.alike h.1, fun q hq => va_Nw.warmM hW (h.2.1 q hq), va_AO.moved hW.alike h.2.2.1, va_AO.moved hW.alike h.2.2.2.1, va_AO.moved hW.alike h.2.2.2.2.1, va_AO.moved hW.alike h.2.2.2.2.2.1, va_AOA.moved hW.alike h.2.2.2.2.2.2.1, va_AOA.moved hW.alike h.2.2.2.2.2.2.2.1, va_AOA.moved hW.alike h.2.2.2.2.2.2.2.2⟩
theorem KW.call {g : Gx} {U : State} {gf : JFrame} {mk : MethodId} {a : Array Value} (h : KW g U) : KW g (U.calling gf mk a) :=
  have r : U.vm.Alike (U.calling gf mk a).vm := Vm.Alike.refl U.vm
  ⟨va_K.moved (u := U) r h.1, fun q hq => va_Nw.same (u := U) (U := U.calling gf mk a) rfl rfl (h.2.1 q hq), va_AO.moved r h.2.2.1, va_AO.moved r h.2.2.2.1, va_AO.moved r h.2.2.2.2.1, va_AO.moved r h.2.2.2.2.2.1, va_AOA.moved r h.2.2.2.2.2.2.1, va_AOA.moved r h.2.2.2.2.2.2.2.1, va_AOA.moved r h.2.2.2.2.2.2.2.2⟩
theorem WD.blind {lo : Nat} {g : Gx} {h : Sh} {σ : Sg} {args : List Value} : FrameBlind (va_Pc args (WD lo g h σ)) := fun _ _ _ _ q => ⟨q.1, q.2.1, q.2.2.1, q.2.2.2.1.call, trivial⟩
theorem WD.at {lo : Nat} {g : Gx} {h : Sh} {σ : Sg} {s : State} {H : Heap} {locs : List Loc} (hlo : lo ≤ s.heap.size) (hK : KW g s) (hZ : ZW lo s s.heap) (hW : FW g h (Ax lo) σ H) (hS : va_S (Ax lo) s.heap H locs) : ∀ U : State, U.heap = H → s.WarmedH U.vm → WD lo g h σ U :=
  fun U hU hw => ⟨by rw [hU]; exact Nat.le_trans hlo hS.1, by rw [hU]; exact hW, hK.warm hw, trivial⟩
theorem cF_arr (g : Gx) (h : Sh) (I : Nat → Int32) (L : Nat → Int64) {k : Nat} (i : Nat) (hk : aln k ≠ 0) : cF g h I L k i = .inl (g.2.1.1, aln k, .inl I) := if_pos hk
theorem FW.cut {g : Gx} {h : Sh} {A : Nat → Prop} {σ : Sg} {H : Heap} (hF : FW g h A σ H) {k i : Nat} (ha : al h k i) :
    ∃ (ws : va_W) (q : Nat), va_P g.1 vwCl ws H ∧ va_D A ws ∧ ws[q]? = some (h.2.2 k i, ct g h σ k i) ∧
      ∀ (σ' : Sg) (H1 : Heap), (∀ k' i', (k' ≠ k ∨ i' ≠ i) → σ'.1 k' i' = σ.1 k' i' ∧ σ'.2 k' i' = σ.2 k' i') → va_P g.1 vwCl (ws.set q (h.2.2 k i, ct g h σ' k i)) H1 → va_D A (ws.set q (h.2.2 k i, ct g h σ' k i)) → FW g h A σ' H1 := by
  obtain ⟨L, f, hP, hD, hR, hJ, hX⟩ := hF
  obtain ⟨q, hq⟩ := va_pl_get (X := []) (f := f) (hR k i ha).1
  refine ⟨va_pl L f, q, hP, hD, ?_, fun σ' H1 hag hP1 hD1 => ?_⟩
  · rw [← (hR k i ha).2]; exact hq
  · have e : (va_pl L f).set q (h.2.2 k i, ct g h σ' k i) = va_pl L (va_up f (h.2.2 k i) (ct g h σ' k i)) := va_pl_set (X := []) hD (hR k i ha).1 hq
    rw [e] at hP1 hD1
    refine ⟨L, _, hP1, hD1, fun k' i' ha' => ⟨(hR k' i' ha').1, ?_⟩, hJ, fun z e hz => ⟨(hX z e hz).1, by rw [va_up_ne _ _ (Ne.symm ((hX z e hz).2.2 k i ha))]; exact (hX z e hz).2.1, (hX z e hz).2.2⟩⟩
    by_cases hx : k' = k ∧ i' = i
    · obtain ⟨rfl, rfl⟩ := hx
      exact va_up_self _ _ _
    · have hne : h.2.2 k' i' ≠ h.2.2 k i := fun q => hx (hJ k' i' k i ha' ha q)
      rw [va_up_ne _ _ hne, (hR k' i' ha').2]
      obtain ⟨e1, e2⟩ := hag k' i' (by rcases Classical.em (k' = k) with q | q; exact Or.inr (fun z => hx ⟨q, z⟩); exact Or.inl q)
      unfold ct
      rw [e1, e2]
theorem sI_off {σ : Sg} {k i f : Nat} {v : Int32} (k' i' : Nat) (h : k' ≠ k ∨ i' ≠ i) : (sI σ k i f v).1 k' i' = σ.1 k' i' ∧ (sI σ k i f v).2 k' i' = σ.2 k' i' :=
  ⟨funext fun f' => if_neg (fun q => h.elim (fun z => z q.1) (fun z => z q.2.1)), rfl⟩
theorem sL_off {σ : Sg} {k i f : Nat} {v : Int64} (k' i' : Nat) (h : k' ≠ k ∨ i' ≠ i) : (sL σ k i f v).1 k' i' = σ.1 k' i' ∧ (sL σ k i f v).2 k' i' = σ.2 k' i' :=
  ⟨rfl, funext fun f' => if_neg (fun q => h.elim (fun z => z q.1) (fun z => z q.2.1))⟩
theorem sI_on (σ : Sg) (k i f : Nat) (v : Int32) : (sI σ k i f v).1 k i = upd (σ.1 k i) f v := by
  funext j; simp [sI, upd]
theorem sI_on2 (σ : Sg) (k i f : Nat) (v : Int32) : (sI σ k i f v).2 k i = σ.2 k i := rfl
theorem sL_on (σ : Sg) (k i f : Nat) (v : Int64) : (sL σ k i f v).2 k i = vp_updL (σ.2 k i) f v := by
  funext j; simp [sL, vp_updL]
theorem sL_on1 (σ : Sg) (k i f : Nat) (v : Int64) : (sL σ k i f v).1 k i = σ.1 k i := rfl
section RW
variable {p : Program} {l : Launch} {e : Env} {R : Room} {s : State} {m : MethodId} {args : Array Value} {below : List Frame} {meth : Method} {c : Code} {H : Heap} {locs : List Loc} {cells slots : Nat} {Q : State → Prop}
variable {cc : ByteArray} {pc nL : Nat} {ls : Array Slot} {rest : List Value} {A : Nat → Prop} {H0 : Heap} {own : String} {g : Gx} {h : Sh} {σ : Sg}
theorem getI (C0 : CallFix p m c cc nL s args wB own) (hK : KW g s) (hW : FW g h A σ H) (k i : Nat) (ha : al h k i) {ci : Nat} {fs : List Value} (he : ct g h σ k i = .inr (ci, fs)) {C : String} {T : u_T} {N : Nat} (hc : vwCl[ci]? = some (C, T, N)) (hin : ∀ w ∈ u_ws C T N, w ∈ wB) (f : Nat) (hf : f < N) {index : Nat} (hl : Cond.fieldLink own index C (T f).2.1 (T f).2.2.1 ∈ wB) (hd : (T f).1 = C) {v : Value} (hv : fs[f]? = some v) (hdg : decode cc pc = .ok (.getfield index, 3))
    (kk : W p l e R s m args below meth c H locs cells slots Q (F0 m (pc + 3) ls (v :: rest))) : W p l e R s m args below meth c H locs cells slots Q (F0 m pc ls (.ref (h.2.2 k i) :: rest)) := by
  obtain ⟨ws, q, hP, -, hq, -⟩ := hW.cut ha
  rw [he] at hq
  exact va_get C0.1 C0.2.1 C0.2.2.2.2 hin C0.2.2.2.1 hK.1 hP q hq hc f hf (C0.2.2.2.2 _ hl) (fun x hx => hd ▸ hx) hv hdg kk
theorem putG (C0 : CallFix p m c cc nL s args wB own) (hK : KW g s) (hW : FW g h A σ H) (hS : va_S A H0 H locs) (k i : Nat) (ha : al h k i) {ci : Nat} {fs : List Value} (he : ct g h σ k i = .inr (ci, fs)) {C : String} {T : u_T} {N : Nat} (hc : vwCl[ci]? = some (C, T, N)) (hin : ∀ w ∈ u_ws C T N, w ∈ wB) {tyo : Nat → FieldType} (hty : ∀ k, k < N → parseFieldDescriptor (T k).2.2.1 = some (tyo k)) (hnm : ∀ a, a < N → ∀ b, b < N → a ≠ b → (T a).2.1 ≠ (T b).2.1) (f : Nat) (hf : f < N) {index : Nat} (hl : Cond.fieldLink own index C (T f).2.1 (T f).2.2.1 ∈ wB) (hd : (T f).1 = C) (hfin : (T f).2.2.2 = false) {v : Value} (hn : narrow (tyo f) v = v) (hfit : fits (tyo f) v = true) (hlen : f < fs.length) (σ' : Sg) (hoff : ∀ k' i', (k' ≠ k ∨ i' ≠ i) → σ'.1 k' i' = σ.1 k' i' ∧ σ'.2 k' i' = σ.2 k' i') (hon : ct g h σ' k i = .inr (ci, fs.set f v))
    (hdg : decode cc pc = .ok (.putfield index, 3)) (kk : ∀ (H1 : Heap) (locs1 : List Loc), FW g h A σ' H1 → va_S A H0 H1 locs1 → W p l e R s m args below meth c H1 locs1 cells slots Q (F0 m (pc + 3) ls rest)) : W p l e R s m args below meth c H locs cells slots Q (F0 m pc ls (v :: .ref (h.2.2 k i) :: rest)) := by
  obtain ⟨ws, q, hP, hD, hq, back⟩ := hW.cut ha
  rw [he] at hq
  refine va_put C0.1 C0.2.1 C0.2.2.2.2 hin tyo hty hnm C0.2.2.2.1 hK.1 hP hD hS q hq hc f hf (C0.2.2.2.2 _ hl) (fun x hx => hd ▸ hx) hfin (hty f hf) hn hfit hlen hdg (fun H1 locs1 hP1 hD1 hS1 => ?_)
  rw [← hon] at hP1 hD1
  exact kk H1 locs1 (back σ' H1 hoff hP1 hD1) hS1
theorem ald (C0 : CallFix p m c cc nL s args wB own) (hK : KW g s) (hW : FW g h A σ H) (k i : Nat) (ha : al h k i) (hk : aln k ≠ 0) {x : Int32} (hin : vp_in x (aln k)) (hdg : decode cc pc = .ok (.iaload, 1))
    (kk : W p l e R s m args below meth c H locs cells slots Q (F0 m (pc + 1) ls (.int (σ.1 k i x.toNatClampNeg) :: rest))) : W p l e R s m args below meth c H locs cells slots Q (F0 m pc ls (.int x :: .ref (h.2.2 k i) :: rest)) := by
  obtain ⟨ws, q, hP, -, hq, -⟩ := hW.cut ha
  rw [show ct g h σ k i = .inl (g.2.1.1, aln k, .inl (σ.1 k i)) from if_pos hk] at hq
  exact va_iald C0.1 C0.2.1 hK.1 hP q 0 hq rfl hin hdg kk
theorem ast (C0 : CallFix p m c cc nL s args wB own) (hK : KW g s) (hW : FW g h A σ H) (hS : va_S A H0 H locs) (k i : Nat) (ha : al h k i) (hk : aln k ≠ 0) {x v : Int32} (hin : vp_in x (aln k)) (hdg : decode cc pc = .ok (.iastore, 1))
    (kk : ∀ (H1 : Heap) (locs1 : List Loc), FW g h A (sI σ k i x.toNatClampNeg v) H1 → va_S A H0 H1 locs1 → W p l e R s m args below meth c H1 locs1 cells slots Q (F0 m (pc + 1) ls rest)) : W p l e R s m args below meth c H locs cells slots Q (F0 m pc ls (.int v :: .int x :: .ref (h.2.2 k i) :: rest)) := by
  obtain ⟨ws, q, hP, hD, hq, back⟩ := hW.cut ha
  rw [show ct g h σ k i = .inl (g.2.1.1, aln k, .inl (σ.1 k i)) from if_pos hk] at hq
  refine va_iast C0.1 C0.2.1 hK.1 hP hD hS q 0 hq rfl hin hdg (fun H1 locs1 hP1 hD1 hS1 => ?_)
  rw [← sI_on, ← (show ct g h (sI σ k i x.toNatClampNeg v) k i = .inl (g.2.1.1, aln k, .inl ((sI σ k i x.toNatClampNeg v).1 k i)) from if_pos hk)] at hP1 hD1
  exact kk H1 locs1 (back _ H1 sI_off hP1 hD1) hS1
theorem alen (C0 : CallFix p m c cc nL s args wB own) (hK : KW g s) (hW : FW g h A σ H) (k i : Nat) (ha : al h k i) (hk : aln k ≠ 0) {v : Int32} (hv : Int32.ofNat (aln k) = v) (hdg : decode cc pc = .ok (.arraylength, 1))
    (kk : W p l e R s m args below meth c H locs cells slots Q (F0 m (pc + 1) ls (.int v :: rest))) : W p l e R s m args below meth c H locs cells slots Q (F0 m pc ls (.ref (h.2.2 k i) :: rest)) := by
  obtain ⟨ws, q, hP, -, hq, -⟩ := hW.cut ha
  rw [show ct g h σ k i = .inl (g.2.1.1, aln k, .inl (σ.1 k i)) from if_pos hk] at hq
  exact va_alen C0.1 C0.2.1 hK.1 hP q 0 hq rfl hv hdg kk
theorem ct1 (i : Nat) : ct g h σ 1 i = .inl (g.2.1.2.2.2.1, 4, .inr (.inr (.inr (.inr (spF h))))) := rfl
theorem ct2 (i : Nat) : ct g h σ 2 i = .inl (g.2.1.2.2.2.2.1, 8, .inr (.inr (.inr (.inr (bdF h))))) := rfl
theorem ct9 (i : Nat) : ct g h σ 9 i = .inl (g.2.1.2.2.2.2.2, 3, .inr (.inr (.inr (.inr (cmF h i))))) := rfl
theorem al0 (h : Sh) (k : Nat) (hk : k ≤ 4) : al h k 0 := Or.inl ⟨hk, rfl⟩
theorem al5 {h : Sh} {i : Nat} (hi : i < h.1) : al h 5 i := Or.inr (Or.inl ⟨rfl, hi⟩)
theorem al6 {h : Sh} (k : Nat) {i : Nat} (hi : i < h.2.1) (hk : 6 ≤ k ∧ k ≤ 9) : al h k i := Or.inr (Or.inr (Or.inl ⟨hk.1, hk.2, hi⟩))
theorem al10 {h : Sh} (k : Nat) {i : Nat} (hi : i < 3 * h.2.1) (hk : 10 ≤ k ∧ k ≤ 12) : al h k i := Or.inr (Or.inr (Or.inr ⟨hk.1, hk.2, hi⟩))
theorem len1 (C0 : CallFix p m c cc nL s args wB own) (hK : KW g s) (hW : FW g h A σ H) (hdg : decode cc pc = .ok (.arraylength, 1))
    (kk : W p l e R s m args below meth c H locs cells slots Q (F0 m (pc + 1) ls (.int 4 :: rest))) : W p l e R s m args below meth c H locs cells slots Q (F0 m pc ls (.ref (h.2.2 1 0) :: rest)) := by
  obtain ⟨ws, q, hP, -, hq, -⟩ := hW.cut (al0 h 1 (by decide))
  exact va_alen C0.1 C0.2.1 hK.1 hP q 3 hq rfl (show Int32.ofNat 4 = 4 by decide) hdg kk
theorem len2 (C0 : CallFix p m c cc nL s args wB own) (hK : KW g s) (hW : FW g h A σ H) (hdg : decode cc pc = .ok (.arraylength, 1))
    (kk : W p l e R s m args below meth c H locs cells slots Q (F0 m (pc + 1) ls (.int 8 :: rest))) : W p l e R s m args below meth c H locs cells slots Q (F0 m pc ls (.ref (h.2.2 2 0) :: rest)) := by
  obtain ⟨ws, q, hP, -, hq, -⟩ := hW.cut (al0 h 2 (by decide))
  exact va_alen C0.1 C0.2.1 hK.1 hP q 4 hq rfl (show Int32.ofNat 8 = 8 by decide) hdg kk
theorem len9 (C0 : CallFix p m c cc nL s args wB own) (hK : KW g s) (hW : FW g h A σ H) (i : Nat) (hi : i < h.2.1) (hdg : decode cc pc = .ok (.arraylength, 1))
    (kk : W p l e R s m args below meth c H locs cells slots Q (F0 m (pc + 1) ls (.int 3 :: rest))) : W p l e R s m args below meth c H locs cells slots Q (F0 m pc ls (.ref (h.2.2 9 i) :: rest)) := by
  obtain ⟨ws, q, hP, -, hq, -⟩ := hW.cut (al6 9 hi (by decide))
  exact va_alen C0.1 C0.2.1 hK.1 hP q 5 hq rfl (show Int32.ofNat 3 = 3 by decide) hdg kk
theorem ld1 (C0 : CallFix p m c cc nL s args wB own) (hK : KW g s) (hW : FW g h A σ H) {x : Int32} (hin : vp_in x 4) (hdg : decode cc pc = .ok (.aaload, 1))
    (kk : W p l e R s m args below meth c H locs cells slots Q (F0 m (pc + 1) ls (va_rf ((iO h.1 x.toNatClampNeg).map (h.2.2 5)) :: rest))) : W p l e R s m args below meth c H locs cells slots Q (F0 m pc ls (.int x :: .ref (h.2.2 1 0) :: rest)) := by
  obtain ⟨ws, q, hP, -, hq, -⟩ := hW.cut (al0 h 1 (by decide))
  exact va_aldq C0.1 C0.2.1 hK.1 hP q 3 hq rfl hin hdg kk
theorem ld2 (C0 : CallFix p m c cc nL s args wB own) (hK : KW g s) (hW : FW g h A σ H) {x : Int32} (hin : vp_in x 8) (hdg : decode cc pc = .ok (.aaload, 1))
    (kk : W p l e R s m args below meth c H locs cells slots Q (F0 m (pc + 1) ls (va_rf ((iO h.2.1 x.toNatClampNeg).map (h.2.2 6)) :: rest))) : W p l e R s m args below meth c H locs cells slots Q (F0 m pc ls (.int x :: .ref (h.2.2 2 0) :: rest)) := by
  obtain ⟨ws, q, hP, -, hq, -⟩ := hW.cut (al0 h 2 (by decide))
  exact va_aldq C0.1 C0.2.1 hK.1 hP q 4 hq rfl hin hdg kk
theorem ld9 (C0 : CallFix p m c cc nL s args wB own) (hK : KW g s) (hW : FW g h A σ H) (i : Nat) (hi : i < h.2.1) {x : Int32} (hin : vp_in x 3) (hdg : decode cc pc = .ok (.aaload, 1))
    (kk : W p l e R s m args below meth c H locs cells slots Q (F0 m (pc + 1) ls (.ref (h.2.2 10 (3 * i + x.toNatClampNeg)) :: rest))) : W p l e R s m args below meth c H locs cells slots Q (F0 m pc ls (.int x :: .ref (h.2.2 9 i) :: rest)) := by
  obtain ⟨ws, q, hP, -, hq, -⟩ := hW.cut (al6 9 hi (by decide))
  refine va_aldq C0.1 C0.2.1 hK.1 hP q 5 hq rfl hin hdg ?_
  rw [show cmF h i x.toNatClampNeg = some (h.2.2 10 (3 * i + x.toNatClampNeg)) from if_pos (Nat.not_le.mp fun z => hin (Or.inr z))]
  exact kk
theorem ct0 (i : Nat) : ct g h σ 0 i = .inr (4, [.ref (h.2.2 1 0), .ref (h.2.2 2 0), .ref (h.2.2 3 0), .int (σ.1 0 i 3), .int (σ.1 0 i 4), .int (σ.1 0 i 5), .int (σ.1 0 i 6)]) := rfl
theorem get0 (C0 : CallFix p m c cc nL s args wB own) (hK : KW g s) (hW : FW g h A σ H) (i : Nat) (ha : al h 0 i) (f : Nat) (hf : f < 7) {index : Nat} (hl : Cond.fieldLink own index RX4 (TX4 f).2.1 (TX4 f).2.2.1 ∈ wB) (hd : (TX4 f).1 = RX4) {v : Value} (hv : ([.ref (h.2.2 1 0), .ref (h.2.2 2 0), .ref (h.2.2 3 0), .int (σ.1 0 i 3), .int (σ.1 0 i 4), .int (σ.1 0 i 5), .int (σ.1 0 i 6)] : List Value)[f]? = some v) (hdg : decode cc pc = .ok (.getfield index, 3))
    (kk : W p l e R s m args below meth c H locs cells slots Q (F0 m (pc + 3) ls (v :: rest))) : W p l e R s m args below meth c H locs cells slots Q (F0 m pc ls (.ref (h.2.2 0 i) :: rest)) := getI C0 hK hW 0 i ha (ct0 i) (ci := 4) (C := RX4) (T := TX4) (N := 7) rfl inX4_B f hf hl hd hv hdg kk
theorem put0_3 (C0 : CallFix p m c cc nL s args wB own) (hK : KW g s) (hW : FW g h A σ H) (hS : va_S A H0 H locs) (i : Nat) (ha : al h 0 i) {v : Int32} {index : Nat} (hl : Cond.fieldLink own index RX4 (TX4 3).2.1 (TX4 3).2.2.1 ∈ wB) (hdg : decode cc pc = .ok (.putfield index, 3))
    (kk : ∀ (H1 : Heap) (locs1 : List Loc), FW g h A (sI σ 0 i 3 v) H1 → va_S A H0 H1 locs1 → W p l e R s m args below meth c H1 locs1 cells slots Q (F0 m (pc + 3) ls rest)) : W p l e R s m args below meth c H locs cells slots Q (F0 m pc ls (.int v :: .ref (h.2.2 0 i) :: rest)) :=
  putG C0 hK hW hS 0 i ha (ct0 i) (ci := 4) (C := RX4) (T := TX4) (N := 7) rfl inX4_B tyX4_ok nmX4 3 (by decide) hl rfl rfl rfl rfl (by simp) (sI σ 0 i 3 v) sI_off (by rw [ct0]; unfold sI; simp) hdg kk
theorem put0_4 (C0 : CallFix p m c cc nL s args wB own) (hK : KW g s) (hW : FW g h A σ H) (hS : va_S A H0 H locs) (i : Nat) (ha : al h 0 i) {v : Int32} {index : Nat} (hl : Cond.fieldLink own index RX4 (TX4 4).2.1 (TX4 4).2.2.1 ∈ wB) (hdg : decode cc pc = .ok (.putfield index, 3))
    (kk : ∀ (H1 : Heap) (locs1 : List Loc), FW g h A (sI σ 0 i 4 v) H1 → va_S A H0 H1 locs1 → W p l e R s m args below meth c H1 locs1 cells slots Q (F0 m (pc + 3) ls rest)) : W p l e R s m args below meth c H locs cells slots Q (F0 m pc ls (.int v :: .ref (h.2.2 0 i) :: rest)) :=
  putG C0 hK hW hS 0 i ha (ct0 i) (ci := 4) (C := RX4) (T := TX4) (N := 7) rfl inX4_B tyX4_ok nmX4 4 (by decide) hl rfl rfl rfl rfl (by simp) (sI σ 0 i 4 v) sI_off (by rw [ct0]; unfold sI; simp) hdg kk
theorem put0_5 (C0 : CallFix p m c cc nL s args wB own) (hK : KW g s) (hW : FW g h A σ H) (hS : va_S A H0 H locs) (i : Nat) (ha : al h 0 i) {v : Int32} {index : Nat} (hl : Cond.fieldLink own index RX4 (TX4 5).2.1 (TX4 5).2.2.1 ∈ wB) (hdg : decode cc pc = .ok (.putfield index, 3))
    (kk : ∀ (H1 : Heap) (locs1 : List Loc), FW g h A (sI σ 0 i 5 v) H1 → va_S A H0 H1 locs1 → W p l e R s m args below meth c H1 locs1 cells slots Q (F0 m (pc + 3) ls rest)) : W p l e R s m args below meth c H locs cells slots Q (F0 m pc ls (.int v :: .ref (h.2.2 0 i) :: rest)) :=
  putG C0 hK hW hS 0 i ha (ct0 i) (ci := 4) (C := RX4) (T := TX4) (N := 7) rfl inX4_B tyX4_ok nmX4 5 (by decide) hl rfl rfl rfl rfl (by simp) (sI σ 0 i 5 v) sI_off (by rw [ct0]; unfold sI; simp) hdg kk
theorem put0_6 (C0 : CallFix p m c cc nL s args wB own) (hK : KW g s) (hW : FW g h A σ H) (hS : va_S A H0 H locs) (i : Nat) (ha : al h 0 i) {v : Int32} {index : Nat} (hl : Cond.fieldLink own index RX4 (TX4 6).2.1 (TX4 6).2.2.1 ∈ wB) (hdg : decode cc pc = .ok (.putfield index, 3))
    (kk : ∀ (H1 : Heap) (locs1 : List Loc), FW g h A (sI σ 0 i 6 v) H1 → va_S A H0 H1 locs1 → W p l e R s m args below meth c H1 locs1 cells slots Q (F0 m (pc + 3) ls rest)) : W p l e R s m args below meth c H locs cells slots Q (F0 m pc ls (.int v :: .ref (h.2.2 0 i) :: rest)) :=
  putG C0 hK hW hS 0 i ha (ct0 i) (ci := 4) (C := RX4) (T := TX4) (N := 7) rfl inX4_B tyX4_ok nmX4 6 (by decide) hl rfl rfl rfl rfl (by simp) (sI σ 0 i 6 v) sI_off (by rw [ct0]; unfold sI; simp) hdg kk
theorem ct3 (i : Nat) : ct g h σ 3 i = .inr (2, [.ref (h.2.2 4 0), .int (σ.1 3 i 1), .int (σ.1 3 i 2), .int (σ.1 3 i 3), .int (σ.1 3 i 4)]) := rfl
theorem get3 (C0 : CallFix p m c cc nL s args wB own) (hK : KW g s) (hW : FW g h A σ H) (i : Nat) (ha : al h 3 i) (f : Nat) (hf : f < 5) {index : Nat} (hl : Cond.fieldLink own index RX2 (TX2 f).2.1 (TX2 f).2.2.1 ∈ wB) (hd : (TX2 f).1 = RX2) {v : Value} (hv : ([.ref (h.2.2 4 0), .int (σ.1 3 i 1), .int (σ.1 3 i 2), .int (σ.1 3 i 3), .int (σ.1 3 i 4)] : List Value)[f]? = some v) (hdg : decode cc pc = .ok (.getfield index, 3))
    (kk : W p l e R s m args below meth c H locs cells slots Q (F0 m (pc + 3) ls (v :: rest))) : W p l e R s m args below meth c H locs cells slots Q (F0 m pc ls (.ref (h.2.2 3 i) :: rest)) := getI C0 hK hW 3 i ha (ct3 i) (ci := 2) (C := RX2) (T := TX2) (N := 5) rfl inX2_B f hf hl hd hv hdg kk
theorem put3_1 (C0 : CallFix p m c cc nL s args wB own) (hK : KW g s) (hW : FW g h A σ H) (hS : va_S A H0 H locs) (i : Nat) (ha : al h 3 i) {v : Int32} {index : Nat} (hl : Cond.fieldLink own index RX2 (TX2 1).2.1 (TX2 1).2.2.1 ∈ wB) (hdg : decode cc pc = .ok (.putfield index, 3))
    (kk : ∀ (H1 : Heap) (locs1 : List Loc), FW g h A (sI σ 3 i 1 v) H1 → va_S A H0 H1 locs1 → W p l e R s m args below meth c H1 locs1 cells slots Q (F0 m (pc + 3) ls rest)) : W p l e R s m args below meth c H locs cells slots Q (F0 m pc ls (.int v :: .ref (h.2.2 3 i) :: rest)) :=
  putG C0 hK hW hS 3 i ha (ct3 i) (ci := 2) (C := RX2) (T := TX2) (N := 5) rfl inX2_B tyX2_ok nmX2 1 (by decide) hl rfl rfl rfl rfl (by simp) (sI σ 3 i 1 v) sI_off (by rw [ct3]; unfold sI; simp) hdg kk
theorem put3_2 (C0 : CallFix p m c cc nL s args wB own) (hK : KW g s) (hW : FW g h A σ H) (hS : va_S A H0 H locs) (i : Nat) (ha : al h 3 i) {v : Int32} {index : Nat} (hl : Cond.fieldLink own index RX2 (TX2 2).2.1 (TX2 2).2.2.1 ∈ wB) (hdg : decode cc pc = .ok (.putfield index, 3))
    (kk : ∀ (H1 : Heap) (locs1 : List Loc), FW g h A (sI σ 3 i 2 v) H1 → va_S A H0 H1 locs1 → W p l e R s m args below meth c H1 locs1 cells slots Q (F0 m (pc + 3) ls rest)) : W p l e R s m args below meth c H locs cells slots Q (F0 m pc ls (.int v :: .ref (h.2.2 3 i) :: rest)) :=
  putG C0 hK hW hS 3 i ha (ct3 i) (ci := 2) (C := RX2) (T := TX2) (N := 5) rfl inX2_B tyX2_ok nmX2 2 (by decide) hl rfl rfl rfl rfl (by simp) (sI σ 3 i 2 v) sI_off (by rw [ct3]; unfold sI; simp) hdg kk
theorem put3_3 (C0 : CallFix p m c cc nL s args wB own) (hK : KW g s) (hW : FW g h A σ H) (hS : va_S A H0 H locs) (i : Nat) (ha : al h 3 i) {v : Int32} {index : Nat} (hl : Cond.fieldLink own index RX2 (TX2 3).2.1 (TX2 3).2.2.1 ∈ wB) (hdg : decode cc pc = .ok (.putfield index, 3))
    (kk : ∀ (H1 : Heap) (locs1 : List Loc), FW g h A (sI σ 3 i 3 v) H1 → va_S A H0 H1 locs1 → W p l e R s m args below meth c H1 locs1 cells slots Q (F0 m (pc + 3) ls rest)) : W p l e R s m args below meth c H locs cells slots Q (F0 m pc ls (.int v :: .ref (h.2.2 3 i) :: rest)) :=
  putG C0 hK hW hS 3 i ha (ct3 i) (ci := 2) (C := RX2) (T := TX2) (N := 5) rfl inX2_B tyX2_ok nmX2 3 (by decide) hl rfl rfl rfl rfl (by simp) (sI σ 3 i 3 v) sI_off (by rw [ct3]; unfold sI; simp) hdg kk
theorem put3_4 (C0 : CallFix p m c cc nL s args wB own) (hK : KW g s) (hW : FW g h A σ H) (hS : va_S A H0 H locs) (i : Nat) (ha : al h 3 i) {v : Int32} {index : Nat} (hl : Cond.fieldLink own index RX2 (TX2 4).2.1 (TX2 4).2.2.1 ∈ wB) (hdg : decode cc pc = .ok (.putfield index, 3))
    (kk : ∀ (H1 : Heap) (locs1 : List Loc), FW g h A (sI σ 3 i 4 v) H1 → va_S A H0 H1 locs1 → W p l e R s m args below meth c H1 locs1 cells slots Q (F0 m (pc + 3) ls rest)) : W p l e R s m args below meth c H locs cells slots Q (F0 m pc ls (.int v :: .ref (h.2.2 3 i) :: rest)) :=
  putG C0 hK hW hS 3 i ha (ct3 i) (ci := 2) (C := RX2) (T := TX2) (N := 5) rfl inX2_B tyX2_ok nmX2 4 (by decide) hl rfl rfl rfl rfl (by simp) (sI σ 3 i 4 v) sI_off (by rw [ct3]; unfold sI; simp) hdg kk
theorem ct5 (i : Nat) : ct g h σ 5 i = .inr (3, [.int (σ.1 5 i 0), .int (σ.1 5 i 1), .long (σ.2 5 i 2), .int (σ.1 5 i 3), .int (σ.1 5 i 4), .int (σ.1 5 i 5), .long (σ.2 5 i 6), .int (σ.1 5 i 7)]) := rfl
theorem get5 (C0 : CallFix p m c cc nL s args wB own) (hK : KW g s) (hW : FW g h A σ H) (i : Nat) (ha : al h 5 i) (f : Nat) (hf : f < 8) {index : Nat} (hl : Cond.fieldLink own index RX3 (TX3 f).2.1 (TX3 f).2.2.1 ∈ wB) (hd : (TX3 f).1 = RX3) {v : Value} (hv : ([.int (σ.1 5 i 0), .int (σ.1 5 i 1), .long (σ.2 5 i 2), .int (σ.1 5 i 3), .int (σ.1 5 i 4), .int (σ.1 5 i 5), .long (σ.2 5 i 6), .int (σ.1 5 i 7)] : List Value)[f]? = some v) (hdg : decode cc pc = .ok (.getfield index, 3))
    (kk : W p l e R s m args below meth c H locs cells slots Q (F0 m (pc + 3) ls (v :: rest))) : W p l e R s m args below meth c H locs cells slots Q (F0 m pc ls (.ref (h.2.2 5 i) :: rest)) := getI C0 hK hW 5 i ha (ct5 i) (ci := 3) (C := RX3) (T := TX3) (N := 8) rfl inX3_B f hf hl hd hv hdg kk
theorem put5_1 (C0 : CallFix p m c cc nL s args wB own) (hK : KW g s) (hW : FW g h A σ H) (hS : va_S A H0 H locs) (i : Nat) (ha : al h 5 i) {v : Int32} {index : Nat} (hl : Cond.fieldLink own index RX3 (TX3 1).2.1 (TX3 1).2.2.1 ∈ wB) (hdg : decode cc pc = .ok (.putfield index, 3))
    (kk : ∀ (H1 : Heap) (locs1 : List Loc), FW g h A (sI σ 5 i 1 v) H1 → va_S A H0 H1 locs1 → W p l e R s m args below meth c H1 locs1 cells slots Q (F0 m (pc + 3) ls rest)) : W p l e R s m args below meth c H locs cells slots Q (F0 m pc ls (.int v :: .ref (h.2.2 5 i) :: rest)) :=
  putG C0 hK hW hS 5 i ha (ct5 i) (ci := 3) (C := RX3) (T := TX3) (N := 8) rfl inX3_B tyX3_ok nmX3 1 (by decide) hl rfl rfl rfl rfl (by simp) (sI σ 5 i 1 v) sI_off (by rw [ct5]; unfold sI; simp) hdg kk
theorem put5_2 (C0 : CallFix p m c cc nL s args wB own) (hK : KW g s) (hW : FW g h A σ H) (hS : va_S A H0 H locs) (i : Nat) (ha : al h 5 i) {v : Int64} {index : Nat} (hl : Cond.fieldLink own index RX3 (TX3 2).2.1 (TX3 2).2.2.1 ∈ wB) (hdg : decode cc pc = .ok (.putfield index, 3))
    (kk : ∀ (H1 : Heap) (locs1 : List Loc), FW g h A (sL σ 5 i 2 v) H1 → va_S A H0 H1 locs1 → W p l e R s m args below meth c H1 locs1 cells slots Q (F0 m (pc + 3) ls rest)) : W p l e R s m args below meth c H locs cells slots Q (F0 m pc ls (.long v :: .ref (h.2.2 5 i) :: rest)) :=
  putG C0 hK hW hS 5 i ha (ct5 i) (ci := 3) (C := RX3) (T := TX3) (N := 8) rfl inX3_B tyX3_ok nmX3 2 (by decide) hl rfl rfl rfl rfl (by simp) (sL σ 5 i 2 v) sL_off (by rw [ct5]; unfold sL; simp) hdg kk
theorem put5_3 (C0 : CallFix p m c cc nL s args wB own) (hK : KW g s) (hW : FW g h A σ H) (hS : va_S A H0 H locs) (i : Nat) (ha : al h 5 i) {v : Int32} {index : Nat} (hl : Cond.fieldLink own index RX3 (TX3 3).2.1 (TX3 3).2.2.1 ∈ wB) (hdg : decode cc pc = .ok (.putfield index, 3))
    (kk : ∀ (H1 : Heap) (locs1 : List Loc), FW g h A (sI σ 5 i 3 v) H1 → va_S A H0 H1 locs1 → W p l e R s m args below meth c H1 locs1 cells slots Q (F0 m (pc + 3) ls rest)) : W p l e R s m args below meth c H locs cells slots Q (F0 m pc ls (.int v :: .ref (h.2.2 5 i) :: rest)) :=
  putG C0 hK hW hS 5 i ha (ct5 i) (ci := 3) (C := RX3) (T := TX3) (N := 8) rfl inX3_B tyX3_ok nmX3 3 (by decide) hl rfl rfl rfl rfl (by simp) (sI σ 5 i 3 v) sI_off (by rw [ct5]; unfold sI; simp) hdg kk
theorem put5_4 (C0 : CallFix p m c cc nL s args wB own) (hK : KW g s) (hW : FW g h A σ H) (hS : va_S A H0 H locs) (i : Nat) (ha : al h 5 i) {v : Int32} (hz : v = 0 ∨ v = 1) {index : Nat} (hl : Cond.fieldLink own index RX3 (TX3 4).2.1 (TX3 4).2.2.1 ∈ wB) (hdg : decode cc pc = .ok (.putfield index, 3))
    (kk : ∀ (H1 : Heap) (locs1 : List Loc), FW g h A (sI σ 5 i 4 v) H1 → va_S A H0 H1 locs1 → W p l e R s m args below meth c H1 locs1 cells slots Q (F0 m (pc + 3) ls rest)) : W p l e R s m args below meth c H locs cells slots Q (F0 m pc ls (.int v :: .ref (h.2.2 5 i) :: rest)) :=
  putG C0 hK hW hS 5 i ha (ct5 i) (ci := 3) (C := RX3) (T := TX3) (N := 8) rfl inX3_B tyX3_ok nmX3 4 (by decide) hl rfl rfl (by rcases hz with rfl | rfl <;> rfl) (by rcases hz with rfl | rfl <;> rfl) (by simp) (sI σ 5 i 4 v) sI_off (by rw [ct5]; unfold sI; simp) hdg kk
theorem put5_5 (C0 : CallFix p m c cc nL s args wB own) (hK : KW g s) (hW : FW g h A σ H) (hS : va_S A H0 H locs) (i : Nat) (ha : al h 5 i) {v : Int32} {index : Nat} (hl : Cond.fieldLink own index RX3 (TX3 5).2.1 (TX3 5).2.2.1 ∈ wB) (hdg : decode cc pc = .ok (.putfield index, 3))
    (kk : ∀ (H1 : Heap) (locs1 : List Loc), FW g h A (sI σ 5 i 5 v) H1 → va_S A H0 H1 locs1 → W p l e R s m args below meth c H1 locs1 cells slots Q (F0 m (pc + 3) ls rest)) : W p l e R s m args below meth c H locs cells slots Q (F0 m pc ls (.int v :: .ref (h.2.2 5 i) :: rest)) :=
  putG C0 hK hW hS 5 i ha (ct5 i) (ci := 3) (C := RX3) (T := TX3) (N := 8) rfl inX3_B tyX3_ok nmX3 5 (by decide) hl rfl rfl rfl rfl (by simp) (sI σ 5 i 5 v) sI_off (by rw [ct5]; unfold sI; simp) hdg kk
theorem put5_6 (C0 : CallFix p m c cc nL s args wB own) (hK : KW g s) (hW : FW g h A σ H) (hS : va_S A H0 H locs) (i : Nat) (ha : al h 5 i) {v : Int64} {index : Nat} (hl : Cond.fieldLink own index RX3 (TX3 6).2.1 (TX3 6).2.2.1 ∈ wB) (hdg : decode cc pc = .ok (.putfield index, 3))
    (kk : ∀ (H1 : Heap) (locs1 : List Loc), FW g h A (sL σ 5 i 6 v) H1 → va_S A H0 H1 locs1 → W p l e R s m args below meth c H1 locs1 cells slots Q (F0 m (pc + 3) ls rest)) : W p l e R s m args below meth c H locs cells slots Q (F0 m pc ls (.long v :: .ref (h.2.2 5 i) :: rest)) :=
  putG C0 hK hW hS 5 i ha (ct5 i) (ci := 3) (C := RX3) (T := TX3) (N := 8) rfl inX3_B tyX3_ok nmX3 6 (by decide) hl rfl rfl rfl rfl (by simp) (sL σ 5 i 6 v) sL_off (by rw [ct5]; unfold sL; simp) hdg kk
theorem put5_7 (C0 : CallFix p m c cc nL s args wB own) (hK : KW g s) (hW : FW g h A σ H) (hS : va_S A H0 H locs) (i : Nat) (ha : al h 5 i) {v : Int32} {index : Nat} (hl : Cond.fieldLink own index RX3 (TX3 7).2.1 (TX3 7).2.2.1 ∈ wB) (hdg : decode cc pc = .ok (.putfield index, 3))
    (kk : ∀ (H1 : Heap) (locs1 : List Loc), FW g h A (sI σ 5 i 7 v) H1 → va_S A H0 H1 locs1 → W p l e R s m args below meth c H1 locs1 cells slots Q (F0 m (pc + 3) ls rest)) : W p l e R s m args below meth c H locs cells slots Q (F0 m pc ls (.int v :: .ref (h.2.2 5 i) :: rest)) :=
  putG C0 hK hW hS 5 i ha (ct5 i) (ci := 3) (C := RX3) (T := TX3) (N := 8) rfl inX3_B tyX3_ok nmX3 7 (by decide) hl rfl rfl rfl rfl (by simp) (sI σ 5 i 7 v) sI_off (by rw [ct5]; unfold sI; simp) hdg kk
theorem ct6 (i : Nat) : ct g h σ 6 i = .inr (0, [.int (σ.1 6 i 0), .int (σ.1 6 i 1), .int (σ.1 6 i 2), .int (σ.1 6 i 3), .int (σ.1 6 i 4), .ref (h.2.2 7 i), .ref (h.2.2 8 i), .ref (h.2.2 9 i), .int (σ.1 6 i 8), .int (σ.1 6 i 9), .long (σ.2 6 i 10), .long (σ.2 6 i 11), .int (σ.1 6 i 12), .long (σ.2 6 i 13), .int (σ.1 6 i 14)]) := rfl
theorem get6 (C0 : CallFix p m c cc nL s args wB own) (hK : KW g s) (hW : FW g h A σ H) (i : Nat) (ha : al h 6 i) (f : Nat) (hf : f < 15) {index : Nat} (hl : Cond.fieldLink own index RX0 (TX0 f).2.1 (TX0 f).2.2.1 ∈ wB) (hd : (TX0 f).1 = RX0) {v : Value} (hv : ([.int (σ.1 6 i 0), .int (σ.1 6 i 1), .int (σ.1 6 i 2), .int (σ.1 6 i 3), .int (σ.1 6 i 4), .ref (h.2.2 7 i), .ref (h.2.2 8 i), .ref (h.2.2 9 i), .int (σ.1 6 i 8), .int (σ.1 6 i 9), .long (σ.2 6 i 10), .long (σ.2 6 i 11), .int (σ.1 6 i 12), .long (σ.2 6 i 13), .int (σ.1 6 i 14)] : List Value)[f]? = some v) (hdg : decode cc pc = .ok (.getfield index, 3))
    (kk : W p l e R s m args below meth c H locs cells slots Q (F0 m (pc + 3) ls (v :: rest))) : W p l e R s m args below meth c H locs cells slots Q (F0 m pc ls (.ref (h.2.2 6 i) :: rest)) := getI C0 hK hW 6 i ha (ct6 i) (ci := 0) (C := RX0) (T := TX0) (N := 15) rfl inX0_B f hf hl hd hv hdg kk
theorem put6_8 (C0 : CallFix p m c cc nL s args wB own) (hK : KW g s) (hW : FW g h A σ H) (hS : va_S A H0 H locs) (i : Nat) (ha : al h 6 i) {v : Int32} {index : Nat} (hl : Cond.fieldLink own index RX0 (TX0 8).2.1 (TX0 8).2.2.1 ∈ wB) (hdg : decode cc pc = .ok (.putfield index, 3))
    (kk : ∀ (H1 : Heap) (locs1 : List Loc), FW g h A (sI σ 6 i 8 v) H1 → va_S A H0 H1 locs1 → W p l e R s m args below meth c H1 locs1 cells slots Q (F0 m (pc + 3) ls rest)) : W p l e R s m args below meth c H locs cells slots Q (F0 m pc ls (.int v :: .ref (h.2.2 6 i) :: rest)) :=
  putG C0 hK hW hS 6 i ha (ct6 i) (ci := 0) (C := RX0) (T := TX0) (N := 15) rfl inX0_B tyX0_ok nmX0 8 (by decide) hl rfl rfl rfl rfl (by simp) (sI σ 6 i 8 v) sI_off (by rw [ct6]; unfold sI; simp) hdg kk
theorem put6_9 (C0 : CallFix p m c cc nL s args wB own) (hK : KW g s) (hW : FW g h A σ H) (hS : va_S A H0 H locs) (i : Nat) (ha : al h 6 i) {v : Int32} (hz : v = 0 ∨ v = 1) {index : Nat} (hl : Cond.fieldLink own index RX0 (TX0 9).2.1 (TX0 9).2.2.1 ∈ wB) (hdg : decode cc pc = .ok (.putfield index, 3))
    (kk : ∀ (H1 : Heap) (locs1 : List Loc), FW g h A (sI σ 6 i 9 v) H1 → va_S A H0 H1 locs1 → W p l e R s m args below meth c H1 locs1 cells slots Q (F0 m (pc + 3) ls rest)) : W p l e R s m args below meth c H locs cells slots Q (F0 m pc ls (.int v :: .ref (h.2.2 6 i) :: rest)) :=
  putG C0 hK hW hS 6 i ha (ct6 i) (ci := 0) (C := RX0) (T := TX0) (N := 15) rfl inX0_B tyX0_ok nmX0 9 (by decide) hl rfl rfl (by rcases hz with rfl | rfl <;> rfl) (by rcases hz with rfl | rfl <;> rfl) (by simp) (sI σ 6 i 9 v) sI_off (by rw [ct6]; unfold sI; simp) hdg kk
theorem put6_10 (C0 : CallFix p m c cc nL s args wB own) (hK : KW g s) (hW : FW g h A σ H) (hS : va_S A H0 H locs) (i : Nat) (ha : al h 6 i) {v : Int64} {index : Nat} (hl : Cond.fieldLink own index RX0 (TX0 10).2.1 (TX0 10).2.2.1 ∈ wB) (hdg : decode cc pc = .ok (.putfield index, 3))
    (kk : ∀ (H1 : Heap) (locs1 : List Loc), FW g h A (sL σ 6 i 10 v) H1 → va_S A H0 H1 locs1 → W p l e R s m args below meth c H1 locs1 cells slots Q (F0 m (pc + 3) ls rest)) : W p l e R s m args below meth c H locs cells slots Q (F0 m pc ls (.long v :: .ref (h.2.2 6 i) :: rest)) :=
  putG C0 hK hW hS 6 i ha (ct6 i) (ci := 0) (C := RX0) (T := TX0) (N := 15) rfl inX0_B tyX0_ok nmX0 10 (by decide) hl rfl rfl rfl rfl (by simp) (sL σ 6 i 10 v) sL_off (by rw [ct6]; unfold sL; simp) hdg kk
theorem put6_11 (C0 : CallFix p m c cc nL s args wB own) (hK : KW g s) (hW : FW g h A σ H) (hS : va_S A H0 H locs) (i : Nat) (ha : al h 6 i) {v : Int64} {index : Nat} (hl : Cond.fieldLink own index RX0 (TX0 11).2.1 (TX0 11).2.2.1 ∈ wB) (hdg : decode cc pc = .ok (.putfield index, 3))
    (kk : ∀ (H1 : Heap) (locs1 : List Loc), FW g h A (sL σ 6 i 11 v) H1 → va_S A H0 H1 locs1 → W p l e R s m args below meth c H1 locs1 cells slots Q (F0 m (pc + 3) ls rest)) : W p l e R s m args below meth c H locs cells slots Q (F0 m pc ls (.long v :: .ref (h.2.2 6 i) :: rest)) :=
  putG C0 hK hW hS 6 i ha (ct6 i) (ci := 0) (C := RX0) (T := TX0) (N := 15) rfl inX0_B tyX0_ok nmX0 11 (by decide) hl rfl rfl rfl rfl (by simp) (sL σ 6 i 11 v) sL_off (by rw [ct6]; unfold sL; simp) hdg kk
theorem put6_12 (C0 : CallFix p m c cc nL s args wB own) (hK : KW g s) (hW : FW g h A σ H) (hS : va_S A H0 H locs) (i : Nat) (ha : al h 6 i) {v : Int32} {index : Nat} (hl : Cond.fieldLink own index RX0 (TX0 12).2.1 (TX0 12).2.2.1 ∈ wB) (hdg : decode cc pc = .ok (.putfield index, 3))
    (kk : ∀ (H1 : Heap) (locs1 : List Loc), FW g h A (sI σ 6 i 12 v) H1 → va_S A H0 H1 locs1 → W p l e R s m args below meth c H1 locs1 cells slots Q (F0 m (pc + 3) ls rest)) : W p l e R s m args below meth c H locs cells slots Q (F0 m pc ls (.int v :: .ref (h.2.2 6 i) :: rest)) :=
  putG C0 hK hW hS 6 i ha (ct6 i) (ci := 0) (C := RX0) (T := TX0) (N := 15) rfl inX0_B tyX0_ok nmX0 12 (by decide) hl rfl rfl rfl rfl (by simp) (sI σ 6 i 12 v) sI_off (by rw [ct6]; unfold sI; simp) hdg kk
theorem put6_13 (C0 : CallFix p m c cc nL s args wB own) (hK : KW g s) (hW : FW g h A σ H) (hS : va_S A H0 H locs) (i : Nat) (ha : al h 6 i) {v : Int64} {index : Nat} (hl : Cond.fieldLink own index RX0 (TX0 13).2.1 (TX0 13).2.2.1 ∈ wB) (hdg : decode cc pc = .ok (.putfield index, 3))
    (kk : ∀ (H1 : Heap) (locs1 : List Loc), FW g h A (sL σ 6 i 13 v) H1 → va_S A H0 H1 locs1 → W p l e R s m args below meth c H1 locs1 cells slots Q (F0 m (pc + 3) ls rest)) : W p l e R s m args below meth c H locs cells slots Q (F0 m pc ls (.long v :: .ref (h.2.2 6 i) :: rest)) :=
  putG C0 hK hW hS 6 i ha (ct6 i) (ci := 0) (C := RX0) (T := TX0) (N := 15) rfl inX0_B tyX0_ok nmX0 13 (by decide) hl rfl rfl rfl rfl (by simp) (sL σ 6 i 13 v) sL_off (by rw [ct6]; unfold sL; simp) hdg kk
theorem put6_14 (C0 : CallFix p m c cc nL s args wB own) (hK : KW g s) (hW : FW g h A σ H) (hS : va_S A H0 H locs) (i : Nat) (ha : al h 6 i) {v : Int32} {index : Nat} (hl : Cond.fieldLink own index RX0 (TX0 14).2.1 (TX0 14).2.2.1 ∈ wB) (hdg : decode cc pc = .ok (.putfield index, 3))
    (kk : ∀ (H1 : Heap) (locs1 : List Loc), FW g h A (sI σ 6 i 14 v) H1 → va_S A H0 H1 locs1 → W p l e R s m args below meth c H1 locs1 cells slots Q (F0 m (pc + 3) ls rest)) : W p l e R s m args below meth c H locs cells slots Q (F0 m pc ls (.int v :: .ref (h.2.2 6 i) :: rest)) :=
  putG C0 hK hW hS 6 i ha (ct6 i) (ci := 0) (C := RX0) (T := TX0) (N := 15) rfl inX0_B tyX0_ok nmX0 14 (by decide) hl rfl rfl rfl rfl (by simp) (sI σ 6 i 14 v) sI_off (by rw [ct6]; unfold sI; simp) hdg kk
theorem ct10 (i : Nat) : ct g h σ 10 i = .inr (1, [.ref (h.2.2 11 i), .ref (h.2.2 12 i), .int (σ.1 10 i 2)]) := rfl
theorem get10 (C0 : CallFix p m c cc nL s args wB own) (hK : KW g s) (hW : FW g h A σ H) (i : Nat) (ha : al h 10 i) (f : Nat) (hf : f < 3) {index : Nat} (hl : Cond.fieldLink own index RX1 (TX1 f).2.1 (TX1 f).2.2.1 ∈ wB) (hd : (TX1 f).1 = RX1) {v : Value} (hv : ([.ref (h.2.2 11 i), .ref (h.2.2 12 i), .int (σ.1 10 i 2)] : List Value)[f]? = some v) (hdg : decode cc pc = .ok (.getfield index, 3))
    (kk : W p l e R s m args below meth c H locs cells slots Q (F0 m (pc + 3) ls (v :: rest))) : W p l e R s m args below meth c H locs cells slots Q (F0 m pc ls (.ref (h.2.2 10 i) :: rest)) := getI C0 hK hW 10 i ha (ct10 i) (ci := 1) (C := RX1) (T := TX1) (N := 3) rfl inX1_B f hf hl hd hv hdg kk
theorem put10_2 (C0 : CallFix p m c cc nL s args wB own) (hK : KW g s) (hW : FW g h A σ H) (hS : va_S A H0 H locs) (i : Nat) (ha : al h 10 i) {v : Int32} {index : Nat} (hl : Cond.fieldLink own index RX1 (TX1 2).2.1 (TX1 2).2.2.1 ∈ wB) (hdg : decode cc pc = .ok (.putfield index, 3))
    (kk : ∀ (H1 : Heap) (locs1 : List Loc), FW g h A (sI σ 10 i 2 v) H1 → va_S A H0 H1 locs1 → W p l e R s m args below meth c H1 locs1 cells slots Q (F0 m (pc + 3) ls rest)) : W p l e R s m args below meth c H locs cells slots Q (F0 m pc ls (.int v :: .ref (h.2.2 10 i) :: rest)) :=
  putG C0 hK hW hS 10 i ha (ct10 i) (ci := 1) (C := RX1) (T := TX1) (N := 3) rfl inX1_B tyX1_ok nmX1 2 (by decide) hl rfl rfl rfl rfl (by simp) (sI σ 10 i 2 v) sI_off (by rw [ct10]; unfold sI; simp) hdg kk
end RW
end
section
/-! CONTRACTS OVER THE WORLD, AND CALLS -/
def MI (l : Launch) (y : MethodName) (ws : List Cond) (fr lw mc ms lo : Nat) (g : Gx) (h : Sh) (av : List Value) (σ : Sg) (r : Int32) (σ1 : Sg) : Prop :=
  Met l y ws { frames := fr, cells := mc, slots := ms, locals := lw } (va_Pc av (WD lo g h σ)) (va_Qi (fun (r' : Int32) (_ : Unit) => r' = r) (fun _ t => FW g h (Ax lo) σ1 t.heap) (Ax lo)) mc ms (Ax lo)
def ML (l : Launch) (y : MethodName) (ws : List Cond) (fr lw mc ms lo : Nat) (g : Gx) (h : Sh) (av : List Value) (σ : Sg) (r : Int64) (σ1 : Sg) : Prop :=
  Met l y ws { frames := fr, cells := mc, slots := ms, locals := lw } (va_Pc av (WD lo g h σ)) (va_Ql (fun (r' : Int64) (_ : Unit) => r' = r) (fun _ t => FW g h (Ax lo) σ1 t.heap) (Ax lo)) mc ms (Ax lo)
def MV (l : Launch) (y : MethodName) (ws : List Cond) (fr lw mc ms lo : Nat) (g : Gx) (h : Sh) (av : List Value) (σ : Sg) (σ1 : Sg) : Prop :=
  Met l y ws { frames := fr, cells := mc, slots := ms, locals := lw } (va_Pc av (WD lo g h σ)) (va_Qv (fun (_ : Unit) => True) (fun _ t => FW g h (Ax lo) σ1 t.heap) (Ax lo)) mc ms (Ax lo)
def MR (l : Launch) (y : MethodName) (ws : List Cond) (fr lw mc ms lo : Nat) (g : Gx) (h : Sh) (av : List Value) (σ : Sg) (r : Option Nat) (σ1 : Sg) : Prop :=
  Met l y ws { frames := fr, cells := mc, slots := ms, locals := lw } (va_Pc av (WD lo g h σ)) (va_Qq (fun (r' : Option Nat) (_ : Unit) => r' = r) (fun _ t => FW g h (Ax lo) σ1 t.heap) (Ax lo)) mc ms (Ax lo)
theorem recvK {s : State} {g : Gx} {h : Sh} {σ : Sg} {A : Nat → Prop} {H : Heap} {k i ci : Nat} {fs : List Value} {C : String} {T : u_T} {N : Nat} (hK : KW g s) (hW : FW g h A σ H) (ha : al h k i) (he : ct g h σ k i = .inr (ci, fs)) (hc : vwCl[ci]? = some (C, T, N)) : ∃ cell : Cell, H[h.2.2 k i]? = some cell ∧ cell.vm.isStatics = false ∧ s.vm.findClass C = some cell.cls := by
  obtain ⟨ws, q, hP, -, hq, -⟩ := hW.cut ha
  rw [he] at hq
  exact va_recv hK.1 hP hc hq
section CALLS
variable {p : Program} {l : Launch} {e : Env} {R : Room} {s : State} {m : MethodId} {args : Array Value} {below : List Frame} {meth : Method} {c : Code} {H : Heap} {locs : List Loc} {cells slots : Nat} {Q : State → Prop}
variable {cc bytes : ByteArray} {pc nL maxL index n lo mc ms fr lw : Nat} {ls : Array Slot} {rest st0 As : List Value} {own C : String} {g : Gx} {h : Sh} {σ σ1 : Sg} {y : MethodName} {ret : Option FieldType} {b : Nat} {Qc : Array Value → State → Outcome → State → Prop}
theorem runV (C0 : CallFix p m c cc nL s args wB own) (hlo : lo ≤ s.heap.size) (hK : KW g s) (hZ : ZW lo s s.heap) (hW : FW g h (Ax lo) σ H) (hS : va_S (Ax lo) s.heap H locs)
    (hM : Met l y (ws_ y bytes maxL ret) { frames := fr, cells := mc, slots := ms, locals := lw } (va_Pc (.ref b :: As) (WD lo g h σ)) Qc mc ms (Ax lo))
    (hco : Cond.code y bytes maxL ret ∈ wB) (h1 : Cond.methodLink own index y ∈ wB) (h2 : Cond.instanceMethod y ∈ wB) (h3 : Cond.selects C y y ∈ wB) (h4 : Cond.initialized C ∈ wB)
    (hd : y.cls = C ∧ y.cls ≠ "java/lang/invoke/MethodHandle" ∧ y.cls ≠ "java/lang/invoke/VarHandle" ∧ (parseMethodDescriptor y.desc).map (fun d => d.parameters.length) = some n) (hR : fr + 1 ≤ R.frames ∧ 8 + (maxL + 11) + lw ≤ R.locals)
    (hrec : ∃ cell : Cell, H[b]? = some cell ∧ cell.vm.isStatics = false ∧ s.vm.findClass C = some cell.cls)
    (hn : As.length = n) (hsize : ls.size = nL) (hst : st0 = As.reverse ++ .ref b :: rest) (hrm : (rest.map fun v => v.category).sum ≤ 8) (hdg : decode cc pc = .ok (.invokevirtual index, 3)) (hf : cells + mc ≤ R.cells ∧ slots + ms ≤ R.slots) :
    va_Run p l e R s m args below meth c H locs cells slots mc ms (F0 m pc ls st0) rest (Qc (Value.ref b :: As).toArray) (Ax lo) :=
  va_runV (As := As) (rest := rest) C0 hM (cwV n C0.2.2.2.2 (gV (ws_good hco) h1 h2 h3 h4) rfl rfl rfl hd hR) ⟨WD.blind, hrec, fun U hU hw => ⟨rfl, WD.at hlo hK hZ hW hS U hU hw⟩⟩ rfl hn hsize hst (lv_room hrm) hdg hf
theorem runS (C0 : CallFix p m c cc nL s args wB own) (hlo : lo ≤ s.heap.size) (hK : KW g s) (hZ : ZW lo s s.heap) (hW : FW g h (Ax lo) σ H) (hS : va_S (Ax lo) s.heap H locs)
    (hM : Met l y (ws_ y bytes maxL ret) { frames := fr, cells := mc, slots := ms, locals := lw } (va_Pc As (WD lo g h σ)) Qc mc ms (Ax lo))
    (hco : Cond.code y bytes maxL ret ∈ wB) (h1 : Cond.methodLink own index y ∈ wB) (h2 : Cond.static y ∈ wB) (h3 : Cond.initialized y.cls ∈ wB)
    (hd : y.cls ≠ "java/lang/invoke/MethodHandle" ∧ y.cls ≠ "java/lang/invoke/VarHandle" ∧ (parseMethodDescriptor y.desc).map (fun d => d.parameters.length) = some n) (hR : fr + 1 ≤ R.frames ∧ 8 + (maxL + 11) + lw ≤ R.locals)
    (hn : As.length = n) (hsize : ls.size = nL) (hst : st0 = As.reverse ++ rest) (hrm : (rest.map fun v => v.category).sum ≤ 8) (hdg : decode cc pc = .ok (.invokestatic index, 3)) (hf : cells + mc ≤ R.cells ∧ slots + ms ≤ R.slots) :
    va_Run p l e R s m args below meth c H locs cells slots mc ms (F0 m pc ls st0) rest (Qc As.toArray) (Ax lo) :=
  va_runS (As := As) (rest := rest) C0 hM (va_cwS n C0.2.2.2.2 (gS (ws_good hco) h1 h2 h3) rfl rfl rfl hd hR) ⟨WD.blind, fun U hU hw => ⟨rfl, WD.at hlo hK hZ hW hS U hU hw⟩⟩ rfl hn hsize hst (lv_room hrm) hdg hf
theorem runN {host : String} (C0 : CallFix p m c cc nL s args wB own) (hlo : lo ≤ s.heap.size) (hK : KW g s) (hZ : ZW lo s s.heap) (hW : FW g h (Ax lo) σ H) (hS : va_S (Ax lo) s.heap H locs)
    (hM : Met l y (ws_ y bytes maxL ret) { frames := fr, cells := mc, slots := ms, locals := lw } (va_Pc As (WD lo g h σ)) Qc mc ms (Ax lo))
    (hco : Cond.code y bytes maxL ret ∈ wB) (h1 : (own, index, y, host) ∈ nstW) (h2 : Cond.static y ∈ wB) (h3 : Cond.initialized y.cls ∈ wB)
    (hd : y.cls ≠ "java/lang/invoke/MethodHandle" ∧ y.cls ≠ "java/lang/invoke/VarHandle" ∧ (parseMethodDescriptor y.desc).map (fun d => d.parameters.length) = some n) (hR : fr + 1 ≤ R.frames ∧ 8 + (maxL + 11) + lw ≤ R.locals)
    (hn : As.length = n) (hsize : ls.size = nL) (hst : st0 = As.reverse ++ rest) (hrm : (rest.map fun v => v.category).sum ≤ 8) (hdg : decode cc pc = .ok (.invokestatic index, 3)) (hf : cells + mc ≤ R.cells ∧ slots + ms ≤ R.slots) :
    va_Run p l e R s m args below meth c H locs cells slots mc ms (F0 m pc ls st0) rest (Qc As.toArray) (Ax lo) :=
  va_runSN (As := As) (rest := rest) C0 hM ⟨va_cnB n C0.2.2.2.2 (ws_good hco) rfl rfl rfl (hK.2.1 _ h1) (C0.2.2.2.2 _ h3) hd hR, C0.2.2.2.2 _ h2, trivial⟩ ⟨WD.blind, fun U hU hw => ⟨rfl, WD.at hlo hK hZ hW hS U hU hw⟩⟩ rfl hn hsize hst (lv_room hrm) hdg hf
theorem inI {a : Array Value} {r : Int32} (hr : va_Run p l e R s m args below meth c H locs cells slots mc ms (F0 m pc ls st0) rest (va_Qi (fun (r' : Int32) (_ : Unit) => r' = r) (fun _ t => FW g h (Ax lo) σ1 t.heap) (Ax lo) a) (Ax lo)) (hS : va_S (Ax lo) s.heap H locs)
    (kk : ∀ (H1 : Heap) (locs1 : List Loc), FW g h (Ax lo) σ1 H1 → va_S (Ax lo) s.heap H1 locs1 → W p l e R s m args below meth c H1 locs1 (cells + mc) (slots + ms) Q (F0 m (pc + 3) ls (.int r :: rest))) : W p l e R s m args below meth c H locs cells slots Q (F0 m pc ls st0) :=
  va_calli hr hS (fun _ _ q => q) (fun _ q => q) (fun r' u t H1 locs1 ht hvm hw hB hz hk hS1 => by subst hw; subst ht; exact kk _ _ hB hS1)
theorem inL {a : Array Value} {r : Int64} (hr : va_Run p l e R s m args below meth c H locs cells slots mc ms (F0 m pc ls st0) rest (va_Ql (fun (r' : Int64) (_ : Unit) => r' = r) (fun _ t => FW g h (Ax lo) σ1 t.heap) (Ax lo) a) (Ax lo)) (hS : va_S (Ax lo) s.heap H locs)
    (kk : ∀ (H1 : Heap) (locs1 : List Loc), FW g h (Ax lo) σ1 H1 → va_S (Ax lo) s.heap H1 locs1 → W p l e R s m args below meth c H1 locs1 (cells + mc) (slots + ms) Q (F0 m (pc + 3) ls (.long r :: rest))) : W p l e R s m args below meth c H locs cells slots Q (F0 m pc ls st0) :=
  va_calll hr hS (fun _ _ q => q) (fun _ q => q) (fun r' u t H1 locs1 ht hvm hw hB hz hk hS1 => by subst hw; subst ht; exact kk _ _ hB hS1)
theorem inV {a : Array Value} (hr : va_Run p l e R s m args below meth c H locs cells slots mc ms (F0 m pc ls st0) rest (va_Qv (fun (_ : Unit) => True) (fun _ t => FW g h (Ax lo) σ1 t.heap) (Ax lo) a) (Ax lo)) (hS : va_S (Ax lo) s.heap H locs)
    (kk : ∀ (H1 : Heap) (locs1 : List Loc), FW g h (Ax lo) σ1 H1 → va_S (Ax lo) s.heap H1 locs1 → W p l e R s m args below meth c H1 locs1 (cells + mc) (slots + ms) Q (F0 m (pc + 3) ls rest)) : W p l e R s m args below meth c H locs cells slots Q (F0 m pc ls st0) :=
  va_callv hr hS (fun _ _ q => q) (fun _ q => q) (fun u t H1 locs1 ht hvm hw hB hz hk hS1 => by subst ht; exact kk _ _ hB hS1)
theorem inR {a : Array Value} {r : Option Nat} (hr : va_Run p l e R s m args below meth c H locs cells slots mc ms (F0 m pc ls st0) rest (va_Qq (fun (r' : Option Nat) (_ : Unit) => r' = r) (fun _ t => FW g h (Ax lo) σ1 t.heap) (Ax lo) a) (Ax lo)) (hS : va_S (Ax lo) s.heap H locs)
    (kk : ∀ (H1 : Heap) (locs1 : List Loc), FW g h (Ax lo) σ1 H1 → va_S (Ax lo) s.heap H1 locs1 → W p l e R s m args below meth c H1 locs1 (cells + mc) (slots + ms) Q (F0 m (pc + 3) ls (va_rf r :: rest))) : W p l e R s m args below meth c H locs cells slots Q (F0 m pc ls st0) :=
  va_callq hr hS (fun _ _ q => q) (fun _ q => q) (fun r' u t H1 locs1 ht hvm hw hB hz hk hS1 => by subst hw; subst ht; exact kk _ _ hB hS1)
/-- the head of a body -/
theorem ofB {av : List Value} (hy : plainName y.cls = true) (hyo : y.cls = own)
    (body : ∀ (p : Program) (e : Env) (s : State) (m : MethodId) (below : List Frame) (meth : Method) (c : Code), CallFix p m c cc maxL s av.toArray wB own → meth.sig.returnType = ret → meth.locks = false → lo ≤ s.heap.size → KW g s → ZW lo s s.heap → FW g h (Ax lo) σ s.heap → va_S (Ax lo) s.heap s.heap [] → ∀ ls : Array Slot, lv_has ls maxL (lv_args 0 av) →
      W p l e { frames := fr, cells := mc, slots := ms, locals := lw } s m av.toArray below meth c s.heap [] 0 0 (MQ below Qc av.toArray s mc ms (Ax lo)) (F0 m 0 ls [])) (hlen : (lg_sl av).length ≤ maxL) :
    Met l y (ws_ y cc maxL ret) { frames := fr, cells := mc, slots := ms, locals := lw } (va_Pc av (WD lo g h σ)) Qc mc ms (Ax lo) := by
  refine Met.ofW (cc := cc) (maxL := maxL) (ret := ret) hy rfl ?_
  intro p e s m args below meth c s₁ B hml hv
  obtain ⟨rfl, hlo, hW, hK, hZ⟩ := hv
  have hts := atoms_spec (ws := ws_ y cc maxL ret) B.pre
  have hown : s.vm.findClass own = some m.cls := hyo ▸ findClass_of_methodNamed B.named
  rw [lg_entry_eq]
  exact body p e s m below meth c ⟨B.exec, B.bytes, hml, hown, fun w hw => hts w (List.mem_cons_of_mem _ hw)⟩ B.returns B.notSynchronized hlo hK hZ hW va_S.rf _ (lv_entry av hlen)
theorem retI {r : Int32} (C0 : CallFix p m c cc nL s args wB own) (hr : meth.sig.returnType = some .int) (hlk : meth.locks = false) (hW : FW g h (Ax lo) σ1 H) (hS : va_S (Ax lo) s.heap H locs) (hdg : decode cc pc = .ok (.ireturn, 1)) :
    W p l e R s m args below meth c H locs cells slots (MQ below (va_Qi (fun (r' : Int32) (_ : Unit) => r' = r) (fun _ t => FW g h (Ax lo) σ1 t.heap) (Ax lo)) args s cells slots (Ax lo)) (F0 m pc ls [.int r]) :=
  W.iret C0.1 C0.2.1 hr (fun t ht hw => ⟨⟨r, (), rfl, rfl, by subst ht; exact hW⟩, hS.F ht⟩) hS.2.2 hdg hlk
theorem retZ {r : Int32} (C0 : CallFix p m c cc nL s args wB own) (hr : meth.sig.returnType = some .boolean) (hlk : meth.locks = false) (hz : r = 0 ∨ r = 1) (hW : FW g h (Ax lo) σ1 H) (hS : va_S (Ax lo) s.heap H locs) (hdg : decode cc pc = .ok (.ireturn, 1)) :
    W p l e R s m args below meth c H locs cells slots (MQ below (va_Qi (fun (r' : Int32) (_ : Unit) => r' = r) (fun _ t => FW g h (Ax lo) σ1 t.heap) (Ax lo)) args s cells slots (Ax lo)) (F0 m pc ls [.int r]) :=
  W.zret C0.1 C0.2.1 hr (by rcases hz with rfl | rfl <;> rfl) (fun t ht hw => ⟨⟨r, (), rfl, rfl, by subst ht; exact hW⟩, hS.F ht⟩) hS.2.2 hdg hlk
theorem retL {r : Int64} (C0 : CallFix p m c cc nL s args wB own) (hr : meth.sig.returnType = some .long) (hlk : meth.locks = false) (hW : FW g h (Ax lo) σ1 H) (hS : va_S (Ax lo) s.heap H locs) (hdg : decode cc pc = .ok (.lreturn, 1)) :
    W p l e R s m args below meth c H locs cells slots (MQ below (va_Ql (fun (r' : Int64) (_ : Unit) => r' = r) (fun _ t => FW g h (Ax lo) σ1 t.heap) (Ax lo)) args s cells slots (Ax lo)) (F0 m pc ls [.long r]) :=
  W.lret C0.1 C0.2.1 hr (fun t ht hw => ⟨⟨r, (), rfl, rfl, by subst ht; exact hW⟩, hS.F ht⟩) hS.2.2 hdg hlk
theorem retV (C0 : CallFix p m c cc nL s args wB own) (hr : meth.sig.returnType = none) (hlk : meth.locks = false) (hW : FW g h (Ax lo) σ1 H) (hS : va_S (Ax lo) s.heap H locs) (hdg : decode cc pc = .ok (.return_, 1)) :
    W p l e R s m args below meth c H locs cells slots (MQ below (va_Qv (fun (_ : Unit) => True) (fun _ t => FW g h (Ax lo) σ1 t.heap) (Ax lo)) args s cells slots (Ax lo)) (F0 m pc ls []) :=
  W.vret C0.1 C0.2.1 hr (fun t ht hw => ⟨⟨(), rfl, trivial, by subst ht; exact hW⟩, hS.F ht⟩) hS.2.2 hdg hlk
theorem retR {rt : FieldType} {r : Option Nat} (C0 : CallFix p m c cc nL s args wB own) (hr : meth.sig.returnType = some rt) (hrt : (∃ n, rt = .object n) ∨ ∃ t, rt = .array t) (hlk : meth.locks = false) (hW : FW g h (Ax lo) σ1 H) (hS : va_S (Ax lo) s.heap H locs) (hdg : decode cc pc = .ok (.areturn, 1)) :
    W p l e R s m args below meth c H locs cells slots (MQ below (va_Qq (fun (r' : Option Nat) (_ : Unit) => r' = r) (fun _ t => FW g h (Ax lo) σ1 t.heap) (Ax lo)) args s cells slots (Ax lo)) (F0 m pc ls [va_rf r]) :=
  W.aret C0.1 C0.2.1 hr hrt (va_rf_or r) (fun t ht hw => ⟨⟨r, (), rfl, rfl, by subst ht; exact hW⟩, hS.F ht⟩) hS.2.2 hdg hlk
theorem bnd {α β : Type} {x : Option α} {f : α → Option β} {z : β} (hF : x.bind f = some z) : ∃ a, x = some a ∧ f a = some z := by
  cases x with
  | none => cases hF
  | some a => exact ⟨a, rfl, hF⟩
end CALLS
end
section
/-! small words of the pure functions, and the rows that go with them -/
def oc {α : Type} (t : Option Nat) (a : α) (b : Nat → α) : α := match t with
  | none => a
  | some i => b i
theorem oc_n {α : Type} (a : α) (b : Nat → α) : oc none a b = a := rfl
theorem oc_s {α : Type} (i : Nat) (a : α) (b : Nat → α) : oc (some i) a b = b i := rfl
theorem grd {α : Type} {c : Prop} [Decidable c] {x : Option α} {z : α} (hF : (if c then none else x) = some z) : ¬ c ∧ x = some z := by
  by_cases hc : c
  · rw [if_pos hc] at hF; cases hF
  · rw [if_neg hc] at hF; exact ⟨hc, hF⟩
theorem grp {α : Type} {c : Prop} [Decidable c] {x : Option α} {z : α} (hF : (if c then x else none) = some z) : c ∧ x = some z := by
  by_cases hc : c
  · rw [if_pos hc] at hF; exact ⟨hc, hF⟩
  · rw [if_neg hc] at hF; cases hF
theorem cam_lt {nb b : Nat} {x : Int32} (hb : b < nb) (hg : ¬ (x < 0 ∨ 3 ≤ x.toNatClampNeg)) : 3 * b + x.toNatClampNeg < 3 * nb := by
  have : x.toNatClampNeg < 3 := Nat.not_le.mp fun q => hg (Or.inr q)
  omega
def mnI (x y : Int32) : Int32 := if y < x then y else x
def mxI (x y : Int32) : Int32 := if x < y then y else x
def mnL (x y : Int64) : Int64 := if y < x then y else x
section ROWS
variable {p : Program} {l : Launch} {e : Env} {R : Room} {s : State} {m : MethodId} {args : Array Value} {below : List Frame} {meth : Method} {c : Code} {H : Heap} {locs : List Loc} {cells slots : Nat} {Q : State → Prop}
variable {cc bytes : ByteArray} {pc nL maxL index n lo mc ms fr lw : Nat} {ls : Array Slot} {rest st0 As : List Value} {own C : String} {g : Gx} {h : Sh} {σ σ1 : Sg} {y : MethodName} {ret : Option FieldType} {b : Nat} {Qc : Array Value → State → Outcome → State → Prop}
theorem nspl {t : Option Nat} {ad : Nat → Nat} (k0 : t = none → W p l e R s m args below meth c H locs cells slots Q (F0 m pc ls (.null :: rest))) (k1 : ∀ i, t = some i → W p l e R s m args below meth c H locs cells slots Q (F0 m pc ls (.ref (ad i) :: rest))) : W p l e R s m args below meth c H locs cells slots Q (F0 m pc ls (va_rf (t.map ad) :: rest)) := by
  cases t with
  | none => exact k0 rfl
  | some i => exact k1 i rfl
theorem r_min {x y : Int32} (C0 : CallFix p m c cc nL s args wB own) (hs : ls.size = nL) (h1 : Cond.methodLink own index Lib.Math.min.name ∈ wB) (h2 : 1 ≤ R.frames) (h3 : (rest.map fun v => v.category).sum + 13 ≤ R.locals) (h4 : cells ≤ R.cells) (h5 : slots ≤ R.slots) (hdg : decode cc pc = .ok (.invokestatic index, 3))
    (kk : W p l e R s m args below meth c H locs cells slots Q (F0 m (pc + 3) ls (.int (mnI x y) :: rest))) : W p l e R s m args below meth c H locs cells slots Q (F0 m pc ls (.int y :: .int x :: rest)) :=
  va_mmin C0.1 C0.2.1 (C0.2.2.1.trans hs.symm) C0.2.2.2.1 (C0.2.2.2.2 _ h1) (C0.2.2.2.2 _ wST_J9_min_7cf53) (C0.2.2.2.2 _ wIN_J9) (C0.2.2.2.2 _ wCO_J9_min_7cf53) h2 h3 h4 h5 hdg kk
theorem r_max {x y : Int32} (C0 : CallFix p m c cc nL s args wB own) (hs : ls.size = nL) (h1 : Cond.methodLink own index Lib.Math.max.name ∈ wB) (h2 : 1 ≤ R.frames) (h3 : (rest.map fun v => v.category).sum + 13 ≤ R.locals) (h4 : cells ≤ R.cells) (h5 : slots ≤ R.slots) (hdg : decode cc pc = .ok (.invokestatic index, 3))
    (kk : W p l e R s m args below meth c H locs cells slots Q (F0 m (pc + 3) ls (.int (mxI x y) :: rest))) : W p l e R s m args below meth c H locs cells slots Q (F0 m pc ls (.int y :: .int x :: rest)) :=
  va_mmax C0.1 C0.2.1 (C0.2.2.1.trans hs.symm) C0.2.2.2.1 (C0.2.2.2.2 _ h1) (C0.2.2.2.2 _ wST_J9_max_7cf53) (C0.2.2.2.2 _ wIN_J9) (C0.2.2.2.2 _ wCO_J9_max_7cf53) h2 h3 h4 h5 hdg kk
theorem r_minl {x y : Int64} (C0 : CallFix p m c cc nL s args wB own) (hs : ls.size = nL) (h1 : Cond.methodLink own index Lib.MathLoose.min_long.x ∈ wB) (h2 : 1 ≤ R.frames) (h3 : (rest.map fun v => v.category).sum + 15 ≤ R.locals) (h4 : cells ≤ R.cells) (h5 : slots ≤ R.slots) (hdg : decode cc pc = .ok (.invokestatic index, 3))
    (kk : W p l e R s m args below meth c H locs cells slots Q (F0 m (pc + 3) ls (.long (mnL x y) :: rest))) : W p l e R s m args below meth c H locs cells slots Q (F0 m pc ls (.long y :: .long x :: rest)) :=
  va_mmin_long C0.1 C0.2.1 (C0.2.2.1.trans hs.symm) C0.2.2.2.1 (C0.2.2.2.2 _ h1) (C0.2.2.2.2 _ wST_J9_min_f86c9) (C0.2.2.2.2 _ wIN_J9) (C0.2.2.2.2 _ wCO_J9_min_f86c9) h2 h3 h4 h5 hdg kk
end ROWS
theorem ofWF {l : Launch} {y : MethodName} {ws ws' : List Cond} {rm : Room} {Pc : Array Value → State → Prop} {Qc : Array Value → State → Outcome → State → Prop} {mc ms : Nat} {free : Addr → Prop} {cc : ByteArray} {maxL : Nat} {ret : Option FieldType}
    (hy : plainFor y = true) (hw : ws = Cond.code y cc maxL ret :: ws')
    (body : ∀ p e s m args below meth c s₁, BodyLoose p l y (headSpec ws rm) cc maxL ret e s m args below meth c s₁ → c.maxLocals = maxL → Pc args s →
      W p l e (headSpec ws rm).room s m args below meth c s.heap [] 0 0 (MQ below Qc args s mc ms free) (entryFrame m args maxL)) : Met l y ws rm Pc Qc mc ms free := by
  refine MetFree.of_bodySF (code := cc) (maxLocals := maxL) (ret := ret) hy ?_ ?_
  · intro args s m h hn
    obtain ⟨meth, c, h1, h2, h3, h4, h5, h6, -, -⟩ := Cond.code_spec hn (atoms_spec (ws := ws) h _ (by rw [hw]; exact List.mem_cons_self))
    exact ⟨meth, c, h1, h2, h3, h4, h5, h6⟩
  · intro p e s m args below meth c s₁ B hml hP _
    have hh0 : s₁.heap = s.heap := by rw [B.state]; rfl
    obtain ⟨t, a1, o, b1, b2, b3⟩ := body p e s m args below meth c s₁ B hml hP s₁ hh0 (Stand.of_body B)
    exact ⟨t, o, a1, b1, b2, ⟨b3.1, b3.2⟩⟩
theorem ofBF {l : Launch} {cc : ByteArray} {maxL lo mc ms fr lw : Nat} {own : String} {g : Gx} {h : Sh} {σ : Sg} {y : MethodName} {ret : Option FieldType} {Qc : Array Value → State → Outcome → State → Prop} {av : List Value} (hy : plainFor y = true) (hyo : y.cls = own)
    (body : ∀ (p : Program) (e : Env) (s : State) (m : MethodId) (below : List Frame) (meth : Method) (c : Code), CallFix p m c cc maxL s av.toArray wB own → meth.sig.returnType = ret → meth.locks = false → lo ≤ s.heap.size → KW g s → ZW lo s s.heap → FW g h (Ax lo) σ s.heap → va_S (Ax lo) s.heap s.heap [] → ∀ ls : Array Slot, lv_has ls maxL (lv_args 0 av) →
      W p l e { frames := fr, cells := mc, slots := ms, locals := lw } s m av.toArray below meth c s.heap [] 0 0 (MQ below Qc av.toArray s mc ms (Ax lo)) (F0 m 0 ls [])) (hlen : (lg_sl av).length ≤ maxL) :
    Met l y (ws_ y cc maxL ret) { frames := fr, cells := mc, slots := ms, locals := lw } (va_Pc av (WD lo g h σ)) Qc mc ms (Ax lo) := by
  refine ofWF (cc := cc) (maxL := maxL) (ret := ret) hy rfl ?_
  intro p e s m args below meth c s₁ B hml hv
  obtain ⟨rfl, hlo, hW, hK, hZ⟩ := hv
  have hts := atoms_spec (ws := ws_ y cc maxL ret) B.pre
  have hown : s.vm.findClass own = some m.cls := hyo ▸ findClass_of_methodNamed B.named
  rw [lg_entry_eq]
  exact body p e s m below meth c ⟨B.exec, B.bytes, hml, hown, fun w hw => hts w (List.mem_cons_of_mem _ hw)⟩ B.returns B.notSynchronized hlo hK hZ hW va_S.rf _ (lv_entry av hlen)
end
section
theorem hdsJ9_floorDiv_7cf53 : yJ9_floorDiv_7cf53.cls ≠ "java/lang/invoke/MethodHandle" ∧ yJ9_floorDiv_7cf53.cls ≠ "java/lang/invoke/VarHandle" ∧ (parseMethodDescriptor yJ9_floorDiv_7cf53.desc).map (fun d => d.parameters.length) = some 2 := by decide +kernel
def FJ9_floorDiv_7cf53 (ns nb : Nat) (σ : Sg) (a0 : Int32) (a1 : Int32) : Option (Int32 × Sg) :=
  if a1 = 0 then none else (if 0 ≤ (a0 ^^^ a1) then (some (a0 / a1, σ)) else (if ((a0 / a1) * a1) = a0 then (some (a0 / a1, σ)) else (some ((a0 / a1) - 1, σ))))
set_option maxHeartbeats 4000000 in
set_option maxRecDepth 100000 in
theorem kJ9_floorDiv_7cf53 (l : Launch) (lo : Nat) (g : Gx) (h : Sh) (σ : Sg) (a0 : Int32) (a1 : Int32)  (r : Int32) (σ1 : Sg) (hF : FJ9_floorDiv_7cf53 h.1 h.2.1 σ a0 a1 = some (r, σ1)) : MI l yJ9_floorDiv_7cf53 (ws_ yJ9_floorDiv_7cf53 cJ9_floorDiv_7cf53 3 (some .int)) 0 0 0 0 lo g h [.int a0, .int a1] σ r σ1 := by
  refine ofBF (own := RJ9) (by decide +kernel) rfl (fun p e s m below meth c C0 hr hlk hlo hK hZ hW hS ls hl => ?_) (Nat.le_of_ble_eq_true rfl)
  have hx := C0.1
  have hb := C0.2.1
  have hl : lv_has ls 3 [(0, .int a0), (1, .int a1)] := hl
  unfold FJ9_floorDiv_7cf53 at hF
  refine lv_iload_n hx hb dJ9_floorDiv_7cf53_0 rfl (lv_at hl 0 rfl) ?_
  refine lv_iload_n hx hb dJ9_floorDiv_7cf53_1 rfl (lv_at hl 1 rfl) ?_
  obtain ⟨hg, hF⟩ := grd hF
  refine lv_idiv hx hb dJ9_floorDiv_7cf53_2 hg ?_
  refine lv_istore_n (lv' := [(2, .int (a0 / a1)), (0, .int a0), (1, .int a1)]) hx hb dJ9_floorDiv_7cf53_3 rfl hl (by decide) rfl (fun ls hl => ?_)
  refine lv_iload_n hx hb dJ9_floorDiv_7cf53_4 rfl (lv_at hl 1 rfl) ?_
  refine lv_iload_n hx hb dJ9_floorDiv_7cf53_5 rfl (lv_at hl 2 rfl) ?_
  refine lv_ixor hx hb dJ9_floorDiv_7cf53_6 ?_
  refine lv_if_ge (tgt := 21) hx hb dJ9_floorDiv_7cf53_7 (by decide) (fun c1 => ?_) (fun c1 => ?_)
  · rw [if_pos c1] at hF
    refine lv_iload_n hx hb dJ9_floorDiv_7cf53_21 rfl (lv_at hl 0 rfl) ?_
    cases hF
    exact retI C0 hr hlk hW hS dJ9_floorDiv_7cf53_22
  · rw [if_neg c1] at hF
    refine lv_iload_n hx hb dJ9_floorDiv_7cf53_10 rfl (lv_at hl 0 rfl) ?_
    refine lv_iload_n hx hb dJ9_floorDiv_7cf53_11 rfl (lv_at hl 2 rfl) ?_
    refine lv_imul hx hb dJ9_floorDiv_7cf53_12 ?_
    refine lv_iload_n hx hb dJ9_floorDiv_7cf53_13 rfl (lv_at hl 1 rfl) ?_
    refine lv_icmp_eq (tgt := 21) hx hb dJ9_floorDiv_7cf53_14 (by decide) (fun c2 => ?_) (fun c2 => ?_)
    · rw [if_pos c2] at hF
      refine lv_iload_n hx hb dJ9_floorDiv_7cf53_21 rfl (lv_at hl 0 rfl) ?_
      cases hF
      exact retI C0 hr hlk hW hS dJ9_floorDiv_7cf53_22
    · rw [if_neg c2] at hF
      refine lv_iload_n hx hb dJ9_floorDiv_7cf53_17 rfl (lv_at hl 0 rfl) ?_
      refine lv_iconst (v := 1) hx hb dJ9_floorDiv_7cf53_18 (by decide) ?_
      refine lv_isub hx hb dJ9_floorDiv_7cf53_19 ?_
      cases hF
      exact retI C0 hr hlk hW hS dJ9_floorDiv_7cf53_20
theorem hdsJ6_bitCount_0f7a4 : yJ6_bitCount_0f7a4.cls ≠ "java/lang/invoke/MethodHandle" ∧ yJ6_bitCount_0f7a4.cls ≠ "java/lang/invoke/VarHandle" ∧ (parseMethodDescriptor yJ6_bitCount_0f7a4.desc).map (fun d => d.parameters.length) = some 1 := by decide +kernel
def FJ6_bitCount_0f7a4 (ns nb : Nat) (σ : Sg) (a0 : Int32) : Option (Int32 × Sg) :=
  some ((((((((a0 - (((a0.toUInt32 >>> ((1 : Int32).toUInt32 &&& Int32.toUInt32 31)).toInt32) &&& 1431655765)) &&& 858993459) + ((((a0 - (((a0.toUInt32 >>> ((1 : Int32).toUInt32 &&& Int32.toUInt32 31)).toInt32) &&& 1431655765)).toUInt32 >>> ((2 : Int32).toUInt32 &&& Int32.toUInt32 31)).toInt32) &&& 858993459)) + (((((a0 - (((a0.toUInt32 >>> ((1 : Int32).toUInt32 &&& Int32.toUInt32 31)).toInt32) &&& 1431655765)) &&& 858993459) + ((((a0 - (((a0.toUInt32 >>> ((1 : Int32).toUInt32 &&& Int32.toUInt32 31)).toInt32) &&& 1431655765)).toUInt32 >>> ((2 : Int32).toUInt32 &&& Int32.toUInt32 31)).toInt32) &&& 858993459)).toUInt32 >>> ((4 : Int32).toUInt32 &&& Int32.toUInt32 31)).toInt32)) &&& 252645135) + (((((((a0 - (((a0.toUInt32 >>> ((1 : Int32).toUInt32 &&& Int32.toUInt32 31)).toInt32) &&& 1431655765)) &&& 858993459) + ((((a0 - (((a0.toUInt32 >>> ((1 : Int32).toUInt32 &&& Int32.toUInt32 31)).toInt32) &&& 1431655765)).toUInt32 >>> ((2 : Int32).toUInt32 &&& Int32.toUInt32 31)).toInt32) &&& 858993459)) + (((((a0 - (((a0.toUInt32 >>> ((1 : Int32).toUInt32 &&& Int32.toUInt32 31)).toInt32) &&& 1431655765)) &&& 858993459) + ((((a0 - (((a0.toUInt32 >>> ((1 : Int32).toUInt32 &&& Int32.toUInt32 31)).toInt32) &&& 1431655765)).toUInt32 >>> ((2 : Int32).toUInt32 &&& Int32.toUInt32 31)).toInt32) &&& 858993459)).toUInt32 >>> ((4 : Int32).toUInt32 &&& Int32.toUInt32 31)).toInt32)) &&& 252645135).toUInt32 >>> ((8 : Int32).toUInt32 &&& Int32.toUInt32 31)).toInt32)) + ((((((((a0 - (((a0.toUInt32 >>> ((1 : Int32).toUInt32 &&& Int32.toUInt32 31)).toInt32) &&& 1431655765)) &&& 858993459) + ((((a0 - (((a0.toUInt32 >>> ((1 : Int32).toUInt32 &&& Int32.toUInt32 31)).toInt32) &&& 1431655765)).toUInt32 >>> ((2 : Int32).toUInt32 &&& Int32.toUInt32 31)).toInt32) &&& 858993459)) + (((((a0 - (((a0.toUInt32 >>> ((1 : Int32).toUInt32 &&& Int32.toUInt32 31)).toInt32) &&& 1431655765)) &&& 858993459) + ((((a0 - (((a0.toUInt32 >>> ((1 : Int32).toUInt32 &&& Int32.toUInt32 31)).toInt32) &&& 1431655765)).toUInt32 >>> ((2 : Int32).toUInt32 &&& Int32.toUInt32 31)).toInt32) &&& 858993459)).toUInt32 >>> ((4 : Int32).toUInt32 &&& Int32.toUInt32 31)).toInt32)) &&& 252645135) + (((((((a0 - (((a0.toUInt32 >>> ((1 : Int32).toUInt32 &&& Int32.toUInt32 31)).toInt32) &&& 1431655765)) &&& 858993459) + ((((a0 - (((a0.toUInt32 >>> ((1 : Int32).toUInt32 &&& Int32.toUInt32 31)).toInt32) &&& 1431655765)).toUInt32 >>> ((2 : Int32).toUInt32 &&& Int32.toUInt32 31)).toInt32) &&& 858993459)) + (((((a0 - (((a0.toUInt32 >>> ((1 : Int32).toUInt32 &&& Int32.toUInt32 31)).toInt32) &&& 1431655765)) &&& 858993459) + ((((a0 - (((a0.toUInt32 >>> ((1 : Int32).toUInt32 &&& Int32.toUInt32 31)).toInt32) &&& 1431655765)).toUInt32 >>> ((2 : Int32).toUInt32 &&& Int32.toUInt32 31)).toInt32) &&& 858993459)).toUInt32 >>> ((4 : Int32).toUInt32 &&& Int32.toUInt32 31)).toInt32)) &&& 252645135).toUInt32 >>> ((8 : Int32).toUInt32 &&& Int32.toUInt32 31)).toInt32)).toUInt32 >>> ((16 : Int32).toUInt32 &&& Int32.toUInt32 31)).toInt32)) &&& 63, σ)
set_option maxHeartbeats 4000000 in
set_option maxRecDepth 100000 in
theorem kJ6_bitCount_0f7a4 (l : Launch) (lo : Nat) (g : Gx) (h : Sh) (σ : Sg) (a0 : Int32)  (r : Int32) (σ1 : Sg) (hF : FJ6_bitCount_0f7a4 h.1 h.2.1 σ a0 = some (r, σ1)) : MI l yJ6_bitCount_0f7a4 (ws_ yJ6_bitCount_0f7a4 cJ6_bitCount_0f7a4 1 (some .int)) 0 0 0 0 lo g h [.int a0] σ r σ1 := by
  refine ofBF (own := RJ6) (by decide +kernel) rfl (fun p e s m below meth c C0 hr hlk hlo hK hZ hW hS ls hl => ?_) (Nat.le_of_ble_eq_true rfl)
  have hx := C0.1
  have hb := C0.2.1
  have hl : lv_has ls 1 [(0, .int a0)] := hl
  unfold FJ6_bitCount_0f7a4 at hF
  refine lv_iload_n hx hb dJ6_bitCount_0f7a4_0 rfl (lv_at hl 0 rfl) ?_
  refine lv_iload_n hx hb dJ6_bitCount_0f7a4_1 rfl (lv_at hl 0 rfl) ?_
  refine lv_iconst (v := 1) hx hb dJ6_bitCount_0f7a4_2 (by decide) ?_
  refine lv_iushr hx hb dJ6_bitCount_0f7a4_3 rfl ?_
  refine lv_ldcw hx hb C0.2.2.2.1 (C0.2.2.2.2 _ wconstant_J6_265) dJ6_bitCount_0f7a4_4 ?_
  refine lv_iand hx hb dJ6_bitCount_0f7a4_7 ?_
  refine lv_isub hx hb dJ6_bitCount_0f7a4_8 ?_
  refine lv_istore_n (lv' := [(0, .int (a0 - (((a0.toUInt32 >>> ((1 : Int32).toUInt32 &&& Int32.toUInt32 31)).toInt32) &&& 1431655765)))]) hx hb dJ6_bitCount_0f7a4_9 rfl hl (by decide) rfl (fun ls hl => ?_)
  refine lv_iload_n hx hb dJ6_bitCount_0f7a4_10 rfl (lv_at hl 0 rfl) ?_
  refine lv_ldcw hx hb C0.2.2.2.1 (C0.2.2.2.2 _ wconstant_J6_266) dJ6_bitCount_0f7a4_11 ?_
  refine lv_iand hx hb dJ6_bitCount_0f7a4_14 ?_
  refine lv_iload_n hx hb dJ6_bitCount_0f7a4_15 rfl (lv_at hl 0 rfl) ?_
  refine lv_iconst (v := 2) hx hb dJ6_bitCount_0f7a4_16 (by decide) ?_
  refine lv_iushr hx hb dJ6_bitCount_0f7a4_17 rfl ?_
  refine lv_ldcw hx hb C0.2.2.2.1 (C0.2.2.2.2 _ wconstant_J6_266) dJ6_bitCount_0f7a4_18 ?_
  refine lv_iand hx hb dJ6_bitCount_0f7a4_21 ?_
  refine lv_iadd hx hb dJ6_bitCount_0f7a4_22 ?_
  refine lv_istore_n (lv' := [(0, .int (((a0 - (((a0.toUInt32 >>> ((1 : Int32).toUInt32 &&& Int32.toUInt32 31)).toInt32) &&& 1431655765)) &&& 858993459) + ((((a0 - (((a0.toUInt32 >>> ((1 : Int32).toUInt32 &&& Int32.toUInt32 31)).toInt32) &&& 1431655765)).toUInt32 >>> ((2 : Int32).toUInt32 &&& Int32.toUInt32 31)).toInt32) &&& 858993459)))]) hx hb dJ6_bitCount_0f7a4_23 rfl hl (by decide) rfl (fun ls hl => ?_)
  refine lv_iload_n hx hb dJ6_bitCount_0f7a4_24 rfl (lv_at hl 0 rfl) ?_
  refine lv_iload_n hx hb dJ6_bitCount_0f7a4_25 rfl (lv_at hl 0 rfl) ?_
  refine lv_iconst (v := 4) hx hb dJ6_bitCount_0f7a4_26 (by decide) ?_
  refine lv_iushr hx hb dJ6_bitCount_0f7a4_27 rfl ?_
  refine lv_iadd hx hb dJ6_bitCount_0f7a4_28 ?_
  refine lv_ldcw hx hb C0.2.2.2.1 (C0.2.2.2.2 _ wconstant_J6_267) dJ6_bitCount_0f7a4_29 ?_
  refine lv_iand hx hb dJ6_bitCount_0f7a4_32 ?_
  refine lv_istore_n (lv' := [(0, .int (((((a0 - (((a0.toUInt32 >>> ((1 : Int32).toUInt32 &&& Int32.toUInt32 31)).toInt32) &&& 1431655765)) &&& 858993459) + ((((a0 - (((a0.toUInt32 >>> ((1 : Int32).toUInt32 &&& Int32.toUInt32 31)).toInt32) &&& 1431655765)).toUInt32 >>> ((2 : Int32).toUInt32 &&& Int32.toUInt32 31)).toInt32) &&& 858993459)) + (((((a0 - (((a0.toUInt32 >>> ((1 : Int32).toUInt32 &&& Int32.toUInt32 31)).toInt32) &&& 1431655765)) &&& 858993459) + ((((a0 - (((a0.toUInt32 >>> ((1 : Int32).toUInt32 &&& Int32.toUInt32 31)).toInt32) &&& 1431655765)).toUInt32 >>> ((2 : Int32).toUInt32 &&& Int32.toUInt32 31)).toInt32) &&& 858993459)).toUInt32 >>> ((4 : Int32).toUInt32 &&& Int32.toUInt32 31)).toInt32)) &&& 252645135))]) hx hb dJ6_bitCount_0f7a4_33 rfl hl (by decide) rfl (fun ls hl => ?_)
  refine lv_iload_n hx hb dJ6_bitCount_0f7a4_34 rfl (lv_at hl 0 rfl) ?_
  refine lv_iload_n hx hb dJ6_bitCount_0f7a4_35 rfl (lv_at hl 0 rfl) ?_
  refine lv_bipush (v := 8) hx hb dJ6_bitCount_0f7a4_36 (by decide) ?_
  refine lv_iushr hx hb dJ6_bitCount_0f7a4_38 rfl ?_
  refine lv_iadd hx hb dJ6_bitCount_0f7a4_39 ?_
  refine lv_istore_n (lv' := [(0, .int ((((((a0 - (((a0.toUInt32 >>> ((1 : Int32).toUInt32 &&& Int32.toUInt32 31)).toInt32) &&& 1431655765)) &&& 858993459) + ((((a0 - (((a0.toUInt32 >>> ((1 : Int32).toUInt32 &&& Int32.toUInt32 31)).toInt32) &&& 1431655765)).toUInt32 >>> ((2 : Int32).toUInt32 &&& Int32.toUInt32 31)).toInt32) &&& 858993459)) + (((((a0 - (((a0.toUInt32 >>> ((1 : Int32).toUInt32 &&& Int32.toUInt32 31)).toInt32) &&& 1431655765)) &&& 858993459) + ((((a0 - (((a0.toUInt32 >>> ((1 : Int32).toUInt32 &&& Int32.toUInt32 31)).toInt32) &&& 1431655765)).toUInt32 >>> ((2 : Int32).toUInt32 &&& Int32.toUInt32 31)).toInt32) &&& 858993459)).toUInt32 >>> ((4 : Int32).toUInt32 &&& Int32.toUInt32 31)).toInt32)) &&& 252645135) + (((((((a0 - (((a0.toUInt32 >>> ((1 : Int32).toUInt32 &&& Int32.toUInt32 31)).toInt32) &&& 1431655765)) &&& 858993459) + ((((a0 - (((a0.toUInt32 >>> ((1 : Int32).toUInt32 &&& Int32.toUInt32 31)).toInt32) &&& 1431655765)).toUInt32 >>> ((2 : Int32).toUInt32 &&& Int32.toUInt32 31)).toInt32) &&& 858993459)) + (((((a0 - (((a0.toUInt32 >>> ((1 : Int32).toUInt32 &&& Int32.toUInt32 31)).toInt32) &&& 1431655765)) &&& 858993459) + ((((a0 - (((a0.toUInt32 >>> ((1 : Int32).toUInt32 &&& Int32.toUInt32 31)).toInt32) &&& 1431655765)).toUInt32 >>> ((2 : Int32).toUInt32 &&& Int32.toUInt32 31)).toInt32) &&& 858993459)).toUInt32 >>> ((4 : Int32).toUInt32 &&& Int32.toUInt32 31)).toInt32)) &&& 252645135).toUInt32 >>> ((8 : Int32).toUInt32 &&& Int32.toUInt32 31)).toInt32)))]) hx hb dJ6_bitCount_0f7a4_40 rfl hl (by decide) rfl (fun ls hl => ?_)
  refine lv_iload_n hx hb dJ6_bitCount_0f7a4_41 rfl (lv_at hl 0 rfl) ?_
  refine lv_iload_n hx hb dJ6_bitCount_0f7a4_42 rfl (lv_at hl 0 rfl) ?_
  refine lv_bipush (v := 16) hx hb dJ6_bitCount_0f7a4_43 (by decide) ?_
  refine lv_iushr hx hb dJ6_bitCount_0f7a4_45 rfl ?_
  refine lv_iadd hx hb dJ6_bitCount_0f7a4_46 ?_
  refine lv_istore_n (lv' := [(0, .int (((((((a0 - (((a0.toUInt32 >>> ((1 : Int32).toUInt32 &&& Int32.toUInt32 31)).toInt32) &&& 1431655765)) &&& 858993459) + ((((a0 - (((a0.toUInt32 >>> ((1 : Int32).toUInt32 &&& Int32.toUInt32 31)).toInt32) &&& 1431655765)).toUInt32 >>> ((2 : Int32).toUInt32 &&& Int32.toUInt32 31)).toInt32) &&& 858993459)) + (((((a0 - (((a0.toUInt32 >>> ((1 : Int32).toUInt32 &&& Int32.toUInt32 31)).toInt32) &&& 1431655765)) &&& 858993459) + ((((a0 - (((a0.toUInt32 >>> ((1 : Int32).toUInt32 &&& Int32.toUInt32 31)).toInt32) &&& 1431655765)).toUInt32 >>> ((2 : Int32).toUInt32 &&& Int32.toUInt32 31)).toInt32) &&& 858993459)).toUInt32 >>> ((4 : Int32).toUInt32 &&& Int32.toUInt32 31)).toInt32)) &&& 252645135) + (((((((a0 - (((a0.toUInt32 >>> ((1 : Int32).toUInt32 &&& Int32.toUInt32 31)).toInt32) &&& 1431655765)) &&& 858993459) + ((((a0 - (((a0.toUInt32 >>> ((1 : Int32).toUInt32 &&& Int32.toUInt32 31)).toInt32) &&& 1431655765)).toUInt32 >>> ((2 : Int32).toUInt32 &&& Int32.toUInt32 31)).toInt32) &&& 858993459)) + (((((a0 - (((a0.toUInt32 >>> ((1 : Int32).toUInt32 &&& Int32.toUInt32 31)).toInt32) &&& 1431655765)) &&& 858993459) + ((((a0 - (((a0.toUInt32 >>> ((1 : Int32).toUInt32 &&& Int32.toUInt32 31)).toInt32) &&& 1431655765)).toUInt32 >>> ((2 : Int32).toUInt32 &&& Int32.toUInt32 31)).toInt32) &&& 858993459)).toUInt32 >>> ((4 : Int32).toUInt32 &&& Int32.toUInt32 31)).toInt32)) &&& 252645135).toUInt32 >>> ((8 : Int32).toUInt32 &&& Int32.toUInt32 31)).toInt32)) + ((((((((a0 - (((a0.toUInt32 >>> ((1 : Int32).toUInt32 &&& Int32.toUInt32 31)).toInt32) &&& 1431655765)) &&& 858993459) + ((((a0 - (((a0.toUInt32 >>> ((1 : Int32).toUInt32 &&& Int32.toUInt32 31)).toInt32) &&& 1431655765)).toUInt32 >>> ((2 : Int32).toUInt32 &&& Int32.toUInt32 31)).toInt32) &&& 858993459)) + (((((a0 - (((a0.toUInt32 >>> ((1 : Int32).toUInt32 &&& Int32.toUInt32 31)).toInt32) &&& 1431655765)) &&& 858993459) + ((((a0 - (((a0.toUInt32 >>> ((1 : Int32).toUInt32 &&& Int32.toUInt32 31)).toInt32) &&& 1431655765)).toUInt32 >>> ((2 : Int32).toUInt32 &&& Int32.toUInt32 31)).toInt32) &&& 858993459)).toUInt32 >>> ((4 : Int32).toUInt32 &&& Int32.toUInt32 31)).toInt32)) &&& 252645135) + (((((((a0 - (((a0.toUInt32 >>> ((1 : Int32).toUInt32 &&& Int32.toUInt32 31)).toInt32) &&& 1431655765)) &&& 858993459) + ((((a0 - (((a0.toUInt32 >>> ((1 : Int32).toUInt32 &&& Int32.toUInt32 31)).toInt32) &&& 1431655765)).toUInt32 >>> ((2 : Int32).toUInt32 &&& Int32.toUInt32 31)).toInt32) &&& 858993459)) + (((((a0 - (((a0.toUInt32 >>> ((1 : Int32).toUInt32 &&& Int32.toUInt32 31)).toInt32) &&& 1431655765)) &&& 858993459) + ((((a0 - (((a0.toUInt32 >>> ((1 : Int32).toUInt32 &&& Int32.toUInt32 31)).toInt32) &&& 1431655765)).toUInt32 >>> ((2 : Int32).toUInt32 &&& Int32.toUInt32 31)).toInt32) &&& 858993459)).toUInt32 >>> ((4 : Int32).toUInt32 &&& Int32.toUInt32 31)).toInt32)) &&& 252645135).toUInt32 >>> ((8 : Int32).toUInt32 &&& Int32.toUInt32 31)).toInt32)).toUInt32 >>> ((16 : Int32).toUInt32 &&& Int32.toUInt32 31)).toInt32)))]) hx hb dJ6_bitCount_0f7a4_47 rfl hl (by decide) rfl (fun ls hl => ?_)
  refine lv_iload_n hx hb dJ6_bitCount_0f7a4_48 rfl (lv_at hl 0 rfl) ?_
  refine lv_bipush (v := 63) hx hb dJ6_bitCount_0f7a4_49 (by decide) ?_
  refine lv_iand hx hb dJ6_bitCount_0f7a4_51 ?_
  cases hF
  exact retI C0 hr hlk hW hS dJ6_bitCount_0f7a4_52
theorem hdsJ13_bitCount_95d88 : yJ13_bitCount_95d88.cls ≠ "java/lang/invoke/MethodHandle" ∧ yJ13_bitCount_95d88.cls ≠ "java/lang/invoke/VarHandle" ∧ (parseMethodDescriptor yJ13_bitCount_95d88.desc).map (fun d => d.parameters.length) = some 1 := by decide +kernel
def FJ13_bitCount_95d88 (ns nb : Nat) (σ : Sg) (a0 : Int64) : Option (Int32 × Sg) :=
  some ((((((((((a0 - (((a0.toUInt64 >>> ((1 : Int32).toInt64.toUInt64 &&& Int64.toUInt64 63)).toInt64) &&& 6148914691236517205)) &&& 3689348814741910323) + ((((a0 - (((a0.toUInt64 >>> ((1 : Int32).toInt64.toUInt64 &&& Int64.toUInt64 63)).toInt64) &&& 6148914691236517205)).toUInt64 >>> ((2 : Int32).toInt64.toUInt64 &&& Int64.toUInt64 63)).toInt64) &&& 3689348814741910323)) + (((((a0 - (((a0.toUInt64 >>> ((1 : Int32).toInt64.toUInt64 &&& Int64.toUInt64 63)).toInt64) &&& 6148914691236517205)) &&& 3689348814741910323) + ((((a0 - (((a0.toUInt64 >>> ((1 : Int32).toInt64.toUInt64 &&& Int64.toUInt64 63)).toInt64) &&& 6148914691236517205)).toUInt64 >>> ((2 : Int32).toInt64.toUInt64 &&& Int64.toUInt64 63)).toInt64) &&& 3689348814741910323)).toUInt64 >>> ((4 : Int32).toInt64.toUInt64 &&& Int64.toUInt64 63)).toInt64)) &&& 1085102592571150095) + (((((((a0 - (((a0.toUInt64 >>> ((1 : Int32).toInt64.toUInt64 &&& Int64.toUInt64 63)).toInt64) &&& 6148914691236517205)) &&& 3689348814741910323) + ((((a0 - (((a0.toUInt64 >>> ((1 : Int32).toInt64.toUInt64 &&& Int64.toUInt64 63)).toInt64) &&& 6148914691236517205)).toUInt64 >>> ((2 : Int32).toInt64.toUInt64 &&& Int64.toUInt64 63)).toInt64) &&& 3689348814741910323)) + (((((a0 - (((a0.toUInt64 >>> ((1 : Int32).toInt64.toUInt64 &&& Int64.toUInt64 63)).toInt64) &&& 6148914691236517205)) &&& 3689348814741910323) + ((((a0 - (((a0.toUInt64 >>> ((1 : Int32).toInt64.toUInt64 &&& Int64.toUInt64 63)).toInt64) &&& 6148914691236517205)).toUInt64 >>> ((2 : Int32).toInt64.toUInt64 &&& Int64.toUInt64 63)).toInt64) &&& 3689348814741910323)).toUInt64 >>> ((4 : Int32).toInt64.toUInt64 &&& Int64.toUInt64 63)).toInt64)) &&& 1085102592571150095).toUInt64 >>> ((8 : Int32).toInt64.toUInt64 &&& Int64.toUInt64 63)).toInt64)) + ((((((((a0 - (((a0.toUInt64 >>> ((1 : Int32).toInt64.toUInt64 &&& Int64.toUInt64 63)).toInt64) &&& 6148914691236517205)) &&& 3689348814741910323) + ((((a0 - (((a0.toUInt64 >>> ((1 : Int32).toInt64.toUInt64 &&& Int64.toUInt64 63)).toInt64) &&& 6148914691236517205)).toUInt64 >>> ((2 : Int32).toInt64.toUInt64 &&& Int64.toUInt64 63)).toInt64) &&& 3689348814741910323)) + (((((a0 - (((a0.toUInt64 >>> ((1 : Int32).toInt64.toUInt64 &&& Int64.toUInt64 63)).toInt64) &&& 6148914691236517205)) &&& 3689348814741910323) + ((((a0 - (((a0.toUInt64 >>> ((1 : Int32).toInt64.toUInt64 &&& Int64.toUInt64 63)).toInt64) &&& 6148914691236517205)).toUInt64 >>> ((2 : Int32).toInt64.toUInt64 &&& Int64.toUInt64 63)).toInt64) &&& 3689348814741910323)).toUInt64 >>> ((4 : Int32).toInt64.toUInt64 &&& Int64.toUInt64 63)).toInt64)) &&& 1085102592571150095) + (((((((a0 - (((a0.toUInt64 >>> ((1 : Int32).toInt64.toUInt64 &&& Int64.toUInt64 63)).toInt64) &&& 6148914691236517205)) &&& 3689348814741910323) + ((((a0 - (((a0.toUInt64 >>> ((1 : Int32).toInt64.toUInt64 &&& Int64.toUInt64 63)).toInt64) &&& 6148914691236517205)).toUInt64 >>> ((2 : Int32).toInt64.toUInt64 &&& Int64.toUInt64 63)).toInt64) &&& 3689348814741910323)) + (((((a0 - (((a0.toUInt64 >>> ((1 : Int32).toInt64.toUInt64 &&& Int64.toUInt64 63)).toInt64) &&& 6148914691236517205)) &&& 3689348814741910323) + ((((a0 - (((a0.toUInt64 >>> ((1 : Int32).toInt64.toUInt64 &&& Int64.toUInt64 63)).toInt64) &&& 6148914691236517205)).toUInt64 >>> ((2 : Int32).toInt64.toUInt64 &&& Int64.toUInt64 63)).toInt64) &&& 3689348814741910323)).toUInt64 >>> ((4 : Int32).toInt64.toUInt64 &&& Int64.toUInt64 63)).toInt64)) &&& 1085102592571150095).toUInt64 >>> ((8 : Int32).toInt64.toUInt64 &&& Int64.toUInt64 63)).toInt64)).toUInt64 >>> ((16 : Int32).toInt64.toUInt64 &&& Int64.toUInt64 63)).toInt64)) + (((((((((a0 - (((a0.toUInt64 >>> ((1 : Int32).toInt64.toUInt64 &&& Int64.toUInt64 63)).toInt64) &&& 6148914691236517205)) &&& 3689348814741910323) + ((((a0 - (((a0.toUInt64 >>> ((1 : Int32).toInt64.toUInt64 &&& Int64.toUInt64 63)).toInt64) &&& 6148914691236517205)).toUInt64 >>> ((2 : Int32).toInt64.toUInt64 &&& Int64.toUInt64 63)).toInt64) &&& 3689348814741910323)) + (((((a0 - (((a0.toUInt64 >>> ((1 : Int32).toInt64.toUInt64 &&& Int64.toUInt64 63)).toInt64) &&& 6148914691236517205)) &&& 3689348814741910323) + ((((a0 - (((a0.toUInt64 >>> ((1 : Int32).toInt64.toUInt64 &&& Int64.toUInt64 63)).toInt64) &&& 6148914691236517205)).toUInt64 >>> ((2 : Int32).toInt64.toUInt64 &&& Int64.toUInt64 63)).toInt64) &&& 3689348814741910323)).toUInt64 >>> ((4 : Int32).toInt64.toUInt64 &&& Int64.toUInt64 63)).toInt64)) &&& 1085102592571150095) + (((((((a0 - (((a0.toUInt64 >>> ((1 : Int32).toInt64.toUInt64 &&& Int64.toUInt64 63)).toInt64) &&& 6148914691236517205)) &&& 3689348814741910323) + ((((a0 - (((a0.toUInt64 >>> ((1 : Int32).toInt64.toUInt64 &&& Int64.toUInt64 63)).toInt64) &&& 6148914691236517205)).toUInt64 >>> ((2 : Int32).toInt64.toUInt64 &&& Int64.toUInt64 63)).toInt64) &&& 3689348814741910323)) + (((((a0 - (((a0.toUInt64 >>> ((1 : Int32).toInt64.toUInt64 &&& Int64.toUInt64 63)).toInt64) &&& 6148914691236517205)) &&& 3689348814741910323) + ((((a0 - (((a0.toUInt64 >>> ((1 : Int32).toInt64.toUInt64 &&& Int64.toUInt64 63)).toInt64) &&& 6148914691236517205)).toUInt64 >>> ((2 : Int32).toInt64.toUInt64 &&& Int64.toUInt64 63)).toInt64) &&& 3689348814741910323)).toUInt64 >>> ((4 : Int32).toInt64.toUInt64 &&& Int64.toUInt64 63)).toInt64)) &&& 1085102592571150095).toUInt64 >>> ((8 : Int32).toInt64.toUInt64 &&& Int64.toUInt64 63)).toInt64)) + ((((((((a0 - (((a0.toUInt64 >>> ((1 : Int32).toInt64.toUInt64 &&& Int64.toUInt64 63)).toInt64) &&& 6148914691236517205)) &&& 3689348814741910323) + ((((a0 - (((a0.toUInt64 >>> ((1 : Int32).toInt64.toUInt64 &&& Int64.toUInt64 63)).toInt64) &&& 6148914691236517205)).toUInt64 >>> ((2 : Int32).toInt64.toUInt64 &&& Int64.toUInt64 63)).toInt64) &&& 3689348814741910323)) + (((((a0 - (((a0.toUInt64 >>> ((1 : Int32).toInt64.toUInt64 &&& Int64.toUInt64 63)).toInt64) &&& 6148914691236517205)) &&& 3689348814741910323) + ((((a0 - (((a0.toUInt64 >>> ((1 : Int32).toInt64.toUInt64 &&& Int64.toUInt64 63)).toInt64) &&& 6148914691236517205)).toUInt64 >>> ((2 : Int32).toInt64.toUInt64 &&& Int64.toUInt64 63)).toInt64) &&& 3689348814741910323)).toUInt64 >>> ((4 : Int32).toInt64.toUInt64 &&& Int64.toUInt64 63)).toInt64)) &&& 1085102592571150095) + (((((((a0 - (((a0.toUInt64 >>> ((1 : Int32).toInt64.toUInt64 &&& Int64.toUInt64 63)).toInt64) &&& 6148914691236517205)) &&& 3689348814741910323) + ((((a0 - (((a0.toUInt64 >>> ((1 : Int32).toInt64.toUInt64 &&& Int64.toUInt64 63)).toInt64) &&& 6148914691236517205)).toUInt64 >>> ((2 : Int32).toInt64.toUInt64 &&& Int64.toUInt64 63)).toInt64) &&& 3689348814741910323)) + (((((a0 - (((a0.toUInt64 >>> ((1 : Int32).toInt64.toUInt64 &&& Int64.toUInt64 63)).toInt64) &&& 6148914691236517205)) &&& 3689348814741910323) + ((((a0 - (((a0.toUInt64 >>> ((1 : Int32).toInt64.toUInt64 &&& Int64.toUInt64 63)).toInt64) &&& 6148914691236517205)).toUInt64 >>> ((2 : Int32).toInt64.toUInt64 &&& Int64.toUInt64 63)).toInt64) &&& 3689348814741910323)).toUInt64 >>> ((4 : Int32).toInt64.toUInt64 &&& Int64.toUInt64 63)).toInt64)) &&& 1085102592571150095).toUInt64 >>> ((8 : Int32).toInt64.toUInt64 &&& Int64.toUInt64 63)).toInt64)).toUInt64 >>> ((16 : Int32).toInt64.toUInt64 &&& Int64.toUInt64 63)).toInt64)).toUInt64 >>> ((32 : Int32).toInt64.toUInt64 &&& Int64.toUInt64 63)).toInt64)).toInt32) &&& 127, σ)
set_option maxHeartbeats 4000000 in
set_option maxRecDepth 100000 in
theorem kJ13_bitCount_95d88 (l : Launch) (lo : Nat) (g : Gx) (h : Sh) (σ : Sg) (a0 : Int64)  (r : Int32) (σ1 : Sg) (hF : FJ13_bitCount_95d88 h.1 h.2.1 σ a0 = some (r, σ1)) : MI l yJ13_bitCount_95d88 (ws_ yJ13_bitCount_95d88 cJ13_bitCount_95d88 2 (some .int)) 0 0 0 0 lo g h [.long a0] σ r σ1 := by
  refine ofBF (own := RJ13) (by decide +kernel) rfl (fun p e s m below meth c C0 hr hlk hlo hK hZ hW hS ls hl => ?_) (Nat.le_of_ble_eq_true rfl)
  have hx := C0.1
  have hb := C0.2.1
  have hl : lv_has ls 2 [(0, .long a0)] := hl
  unfold FJ13_bitCount_95d88 at hF
  refine lv_lload_n hx hb dJ13_bitCount_95d88_0 rfl (lv_at hl 0 rfl) ?_
  refine lv_lload_n hx hb dJ13_bitCount_95d88_1 rfl (lv_at hl 0 rfl) ?_
  refine lv_iconst (v := 1) hx hb dJ13_bitCount_95d88_2 (by decide) ?_
  refine lv_lushr hx hb dJ13_bitCount_95d88_3 rfl ?_
  refine lv_ldc2 hx hb C0.2.2.2.1 (C0.2.2.2.2 _ wconstantLong_J13_314) dJ13_bitCount_95d88_4 ?_
  refine lv_land hx hb dJ13_bitCount_95d88_7 ?_
  refine lv_lsub hx hb dJ13_bitCount_95d88_8 ?_
  refine lv_lstore_n (lv' := [(0, .long (a0 - (((a0.toUInt64 >>> ((1 : Int32).toInt64.toUInt64 &&& Int64.toUInt64 63)).toInt64) &&& 6148914691236517205)))]) hx hb dJ13_bitCount_95d88_9 rfl hl (by decide) rfl (fun ls hl => ?_)
  refine lv_lload_n hx hb dJ13_bitCount_95d88_10 rfl (lv_at hl 0 rfl) ?_
  refine lv_ldc2 hx hb C0.2.2.2.1 (C0.2.2.2.2 _ wconstantLong_J13_316) dJ13_bitCount_95d88_11 ?_
  refine lv_land hx hb dJ13_bitCount_95d88_14 ?_
  refine lv_lload_n hx hb dJ13_bitCount_95d88_15 rfl (lv_at hl 0 rfl) ?_
  refine lv_iconst (v := 2) hx hb dJ13_bitCount_95d88_16 (by decide) ?_
  refine lv_lushr hx hb dJ13_bitCount_95d88_17 rfl ?_
  refine lv_ldc2 hx hb C0.2.2.2.1 (C0.2.2.2.2 _ wconstantLong_J13_316) dJ13_bitCount_95d88_18 ?_
  refine lv_land hx hb dJ13_bitCount_95d88_21 ?_
  refine lv_ladd hx hb dJ13_bitCount_95d88_22 ?_
  refine lv_lstore_n (lv' := [(0, .long (((a0 - (((a0.toUInt64 >>> ((1 : Int32).toInt64.toUInt64 &&& Int64.toUInt64 63)).toInt64) &&& 6148914691236517205)) &&& 3689348814741910323) + ((((a0 - (((a0.toUInt64 >>> ((1 : Int32).toInt64.toUInt64 &&& Int64.toUInt64 63)).toInt64) &&& 6148914691236517205)).toUInt64 >>> ((2 : Int32).toInt64.toUInt64 &&& Int64.toUInt64 63)).toInt64) &&& 3689348814741910323)))]) hx hb dJ13_bitCount_95d88_23 rfl hl (by decide) rfl (fun ls hl => ?_)
  refine lv_lload_n hx hb dJ13_bitCount_95d88_24 rfl (lv_at hl 0 rfl) ?_
  refine lv_lload_n hx hb dJ13_bitCount_95d88_25 rfl (lv_at hl 0 rfl) ?_
  refine lv_iconst (v := 4) hx hb dJ13_bitCount_95d88_26 (by decide) ?_
  refine lv_lushr hx hb dJ13_bitCount_95d88_27 rfl ?_
  refine lv_ladd hx hb dJ13_bitCount_95d88_28 ?_
  refine lv_ldc2 hx hb C0.2.2.2.1 (C0.2.2.2.2 _ wconstantLong_J13_318) dJ13_bitCount_95d88_29 ?_
  refine lv_land hx hb dJ13_bitCount_95d88_32 ?_
  refine lv_lstore_n (lv' := [(0, .long (((((a0 - (((a0.toUInt64 >>> ((1 : Int32).toInt64.toUInt64 &&& Int64.toUInt64 63)).toInt64) &&& 6148914691236517205)) &&& 3689348814741910323) + ((((a0 - (((a0.toUInt64 >>> ((1 : Int32).toInt64.toUInt64 &&& Int64.toUInt64 63)).toInt64) &&& 6148914691236517205)).toUInt64 >>> ((2 : Int32).toInt64.toUInt64 &&& Int64.toUInt64 63)).toInt64) &&& 3689348814741910323)) + (((((a0 - (((a0.toUInt64 >>> ((1 : Int32).toInt64.toUInt64 &&& Int64.toUInt64 63)).toInt64) &&& 6148914691236517205)) &&& 3689348814741910323) + ((((a0 - (((a0.toUInt64 >>> ((1 : Int32).toInt64.toUInt64 &&& Int64.toUInt64 63)).toInt64) &&& 6148914691236517205)).toUInt64 >>> ((2 : Int32).toInt64.toUInt64 &&& Int64.toUInt64 63)).toInt64) &&& 3689348814741910323)).toUInt64 >>> ((4 : Int32).toInt64.toUInt64 &&& Int64.toUInt64 63)).toInt64)) &&& 1085102592571150095))]) hx hb dJ13_bitCount_95d88_33 rfl hl (by decide) rfl (fun ls hl => ?_)
  refine lv_lload_n hx hb dJ13_bitCount_95d88_34 rfl (lv_at hl 0 rfl) ?_
  refine lv_lload_n hx hb dJ13_bitCount_95d88_35 rfl (lv_at hl 0 rfl) ?_
  refine lv_bipush (v := 8) hx hb dJ13_bitCount_95d88_36 (by decide) ?_
  refine lv_lushr hx hb dJ13_bitCount_95d88_38 rfl ?_
  refine lv_ladd hx hb dJ13_bitCount_95d88_39 ?_
  refine lv_lstore_n (lv' := [(0, .long ((((((a0 - (((a0.toUInt64 >>> ((1 : Int32).toInt64.toUInt64 &&& Int64.toUInt64 63)).toInt64) &&& 6148914691236517205)) &&& 3689348814741910323) + ((((a0 - (((a0.toUInt64 >>> ((1 : Int32).toInt64.toUInt64 &&& Int64.toUInt64 63)).toInt64) &&& 6148914691236517205)).toUInt64 >>> ((2 : Int32).toInt64.toUInt64 &&& Int64.toUInt64 63)).toInt64) &&& 3689348814741910323)) + (((((a0 - (((a0.toUInt64 >>> ((1 : Int32).toInt64.toUInt64 &&& Int64.toUInt64 63)).toInt64) &&& 6148914691236517205)) &&& 3689348814741910323) + ((((a0 - (((a0.toUInt64 >>> ((1 : Int32).toInt64.toUInt64 &&& Int64.toUInt64 63)).toInt64) &&& 6148914691236517205)).toUInt64 >>> ((2 : Int32).toInt64.toUInt64 &&& Int64.toUInt64 63)).toInt64) &&& 3689348814741910323)).toUInt64 >>> ((4 : Int32).toInt64.toUInt64 &&& Int64.toUInt64 63)).toInt64)) &&& 1085102592571150095) + (((((((a0 - (((a0.toUInt64 >>> ((1 : Int32).toInt64.toUInt64 &&& Int64.toUInt64 63)).toInt64) &&& 6148914691236517205)) &&& 3689348814741910323) + ((((a0 - (((a0.toUInt64 >>> ((1 : Int32).toInt64.toUInt64 &&& Int64.toUInt64 63)).toInt64) &&& 6148914691236517205)).toUInt64 >>> ((2 : Int32).toInt64.toUInt64 &&& Int64.toUInt64 63)).toInt64) &&& 3689348814741910323)) + (((((a0 - (((a0.toUInt64 >>> ((1 : Int32).toInt64.toUInt64 &&& Int64.toUInt64 63)).toInt64) &&& 6148914691236517205)) &&& 3689348814741910323) + ((((a0 - (((a0.toUInt64 >>> ((1 : Int32).toInt64.toUInt64 &&& Int64.toUInt64 63)).toInt64) &&& 6148914691236517205)).toUInt64 >>> ((2 : Int32).toInt64.toUInt64 &&& Int64.toUInt64 63)).toInt64) &&& 3689348814741910323)).toUInt64 >>> ((4 : Int32).toInt64.toUInt64 &&& Int64.toUInt64 63)).toInt64)) &&& 1085102592571150095).toUInt64 >>> ((8 : Int32).toInt64.toUInt64 &&& Int64.toUInt64 63)).toInt64)))]) hx hb dJ13_bitCount_95d88_40 rfl hl (by decide) rfl (fun ls hl => ?_)
  refine lv_lload_n hx hb dJ13_bitCount_95d88_41 rfl (lv_at hl 0 rfl) ?_
  refine lv_lload_n hx hb dJ13_bitCount_95d88_42 rfl (lv_at hl 0 rfl) ?_
  refine lv_bipush (v := 16) hx hb dJ13_bitCount_95d88_43 (by decide) ?_
  refine lv_lushr hx hb dJ13_bitCount_95d88_45 rfl ?_
  refine lv_ladd hx hb dJ13_bitCount_95d88_46 ?_
  refine lv_lstore_n (lv' := [(0, .long (((((((a0 - (((a0.toUInt64 >>> ((1 : Int32).toInt64.toUInt64 &&& Int64.toUInt64 63)).toInt64) &&& 6148914691236517205)) &&& 3689348814741910323) + ((((a0 - (((a0.toUInt64 >>> ((1 : Int32).toInt64.toUInt64 &&& Int64.toUInt64 63)).toInt64) &&& 6148914691236517205)).toUInt64 >>> ((2 : Int32).toInt64.toUInt64 &&& Int64.toUInt64 63)).toInt64) &&& 3689348814741910323)) + (((((a0 - (((a0.toUInt64 >>> ((1 : Int32).toInt64.toUInt64 &&& Int64.toUInt64 63)).toInt64) &&& 6148914691236517205)) &&& 3689348814741910323) + ((((a0 - (((a0.toUInt64 >>> ((1 : Int32).toInt64.toUInt64 &&& Int64.toUInt64 63)).toInt64) &&& 6148914691236517205)).toUInt64 >>> ((2 : Int32).toInt64.toUInt64 &&& Int64.toUInt64 63)).toInt64) &&& 3689348814741910323)).toUInt64 >>> ((4 : Int32).toInt64.toUInt64 &&& Int64.toUInt64 63)).toInt64)) &&& 1085102592571150095) + (((((((a0 - (((a0.toUInt64 >>> ((1 : Int32).toInt64.toUInt64 &&& Int64.toUInt64 63)).toInt64) &&& 6148914691236517205)) &&& 3689348814741910323) + ((((a0 - (((a0.toUInt64 >>> ((1 : Int32).toInt64.toUInt64 &&& Int64.toUInt64 63)).toInt64) &&& 6148914691236517205)).toUInt64 >>> ((2 : Int32).toInt64.toUInt64 &&& Int64.toUInt64 63)).toInt64) &&& 3689348814741910323)) + (((((a0 - (((a0.toUInt64 >>> ((1 : Int32).toInt64.toUInt64 &&& Int64.toUInt64 63)).toInt64) &&& 6148914691236517205)) &&& 3689348814741910323) + ((((a0 - (((a0.toUInt64 >>> ((1 : Int32).toInt64.toUInt64 &&& Int64.toUInt64 63)).toInt64) &&& 6148914691236517205)).toUInt64 >>> ((2 : Int32).toInt64.toUInt64 &&& Int64.toUInt64 63)).toInt64) &&& 3689348814741910323)).toUInt64 >>> ((4 : Int32).toInt64.toUInt64 &&& Int64.toUInt64 63)).toInt64)) &&& 1085102592571150095).toUInt64 >>> ((8 : Int32).toInt64.toUInt64 &&& Int64.toUInt64 63)).toInt64)) + ((((((((a0 - (((a0.toUInt64 >>> ((1 : Int32).toInt64.toUInt64 &&& Int64.toUInt64 63)).toInt64) &&& 6148914691236517205)) &&& 3689348814741910323) + ((((a0 - (((a0.toUInt64 >>> ((1 : Int32).toInt64.toUInt64 &&& Int64.toUInt64 63)).toInt64) &&& 6148914691236517205)).toUInt64 >>> ((2 : Int32).toInt64.toUInt64 &&& Int64.toUInt64 63)).toInt64) &&& 3689348814741910323)) + (((((a0 - (((a0.toUInt64 >>> ((1 : Int32).toInt64.toUInt64 &&& Int64.toUInt64 63)).toInt64) &&& 6148914691236517205)) &&& 3689348814741910323) + ((((a0 - (((a0.toUInt64 >>> ((1 : Int32).toInt64.toUInt64 &&& Int64.toUInt64 63)).toInt64) &&& 6148914691236517205)).toUInt64 >>> ((2 : Int32).toInt64.toUInt64 &&& Int64.toUInt64 63)).toInt64) &&& 3689348814741910323)).toUInt64 >>> ((4 : Int32).toInt64.toUInt64 &&& Int64.toUInt64 63)).toInt64)) &&& 1085102592571150095) + (((((((a0 - (((a0.toUInt64 >>> ((1 : Int32).toInt64.toUInt64 &&& Int64.toUInt64 63)).toInt64) &&& 6148914691236517205)) &&& 3689348814741910323) + ((((a0 - (((a0.toUInt64 >>> ((1 : Int32).toInt64.toUInt64 &&& Int64.toUInt64 63)).toInt64) &&& 6148914691236517205)).toUInt64 >>> ((2 : Int32).toInt64.toUInt64 &&& Int64.toUInt64 63)).toInt64) &&& 3689348814741910323)) + (((((a0 - (((a0.toUInt64 >>> ((1 : Int32).toInt64.toUInt64 &&& Int64.toUInt64 63)).toInt64) &&& 6148914691236517205)) &&& 3689348814741910323) + ((((a0 - (((a0.toUInt64 >>> ((1 : Int32).toInt64.toUInt64 &&& Int64.toUInt64 63)).toInt64) &&& 6148914691236517205)).toUInt64 >>> ((2 : Int32).toInt64.toUInt64 &&& Int64.toUInt64 63)).toInt64) &&& 3689348814741910323)).toUInt64 >>> ((4 : Int32).toInt64.toUInt64 &&& Int64.toUInt64 63)).toInt64)) &&& 1085102592571150095).toUInt64 >>> ((8 : Int32).toInt64.toUInt64 &&& Int64.toUInt64 63)).toInt64)).toUInt64 >>> ((16 : Int32).toInt64.toUInt64 &&& Int64.toUInt64 63)).toInt64)))]) hx hb dJ13_bitCount_95d88_47 rfl hl (by decide) rfl (fun ls hl => ?_)
  refine lv_lload_n hx hb dJ13_bitCount_95d88_48 rfl (lv_at hl 0 rfl) ?_
  refine lv_lload_n hx hb dJ13_bitCount_95d88_49 rfl (lv_at hl 0 rfl) ?_
  refine lv_bipush (v := 32) hx hb dJ13_bitCount_95d88_50 (by decide) ?_
  refine lv_lushr hx hb dJ13_bitCount_95d88_52 rfl ?_
  refine lv_ladd hx hb dJ13_bitCount_95d88_53 ?_
  refine lv_lstore_n (lv' := [(0, .long ((((((((a0 - (((a0.toUInt64 >>> ((1 : Int32).toInt64.toUInt64 &&& Int64.toUInt64 63)).toInt64) &&& 6148914691236517205)) &&& 3689348814741910323) + ((((a0 - (((a0.toUInt64 >>> ((1 : Int32).toInt64.toUInt64 &&& Int64.toUInt64 63)).toInt64) &&& 6148914691236517205)).toUInt64 >>> ((2 : Int32).toInt64.toUInt64 &&& Int64.toUInt64 63)).toInt64) &&& 3689348814741910323)) + (((((a0 - (((a0.toUInt64 >>> ((1 : Int32).toInt64.toUInt64 &&& Int64.toUInt64 63)).toInt64) &&& 6148914691236517205)) &&& 3689348814741910323) + ((((a0 - (((a0.toUInt64 >>> ((1 : Int32).toInt64.toUInt64 &&& Int64.toUInt64 63)).toInt64) &&& 6148914691236517205)).toUInt64 >>> ((2 : Int32).toInt64.toUInt64 &&& Int64.toUInt64 63)).toInt64) &&& 3689348814741910323)).toUInt64 >>> ((4 : Int32).toInt64.toUInt64 &&& Int64.toUInt64 63)).toInt64)) &&& 1085102592571150095) + (((((((a0 - (((a0.toUInt64 >>> ((1 : Int32).toInt64.toUInt64 &&& Int64.toUInt64 63)).toInt64) &&& 6148914691236517205)) &&& 3689348814741910323) + ((((a0 - (((a0.toUInt64 >>> ((1 : Int32).toInt64.toUInt64 &&& Int64.toUInt64 63)).toInt64) &&& 6148914691236517205)).toUInt64 >>> ((2 : Int32).toInt64.toUInt64 &&& Int64.toUInt64 63)).toInt64) &&& 3689348814741910323)) + (((((a0 - (((a0.toUInt64 >>> ((1 : Int32).toInt64.toUInt64 &&& Int64.toUInt64 63)).toInt64) &&& 6148914691236517205)) &&& 3689348814741910323) + ((((a0 - (((a0.toUInt64 >>> ((1 : Int32).toInt64.toUInt64 &&& Int64.toUInt64 63)).toInt64) &&& 6148914691236517205)).toUInt64 >>> ((2 : Int32).toInt64.toUInt64 &&& Int64.toUInt64 63)).toInt64) &&& 3689348814741910323)).toUInt64 >>> ((4 : Int32).toInt64.toUInt64 &&& Int64.toUInt64 63)).toInt64)) &&& 1085102592571150095).toUInt64 >>> ((8 : Int32).toInt64.toUInt64 &&& Int64.toUInt64 63)).toInt64)) + ((((((((a0 - (((a0.toUInt64 >>> ((1 : Int32).toInt64.toUInt64 &&& Int64.toUInt64 63)).toInt64) &&& 6148914691236517205)) &&& 3689348814741910323) + ((((a0 - (((a0.toUInt64 >>> ((1 : Int32).toInt64.toUInt64 &&& Int64.toUInt64 63)).toInt64) &&& 6148914691236517205)).toUInt64 >>> ((2 : Int32).toInt64.toUInt64 &&& Int64.toUInt64 63)).toInt64) &&& 3689348814741910323)) + (((((a0 - (((a0.toUInt64 >>> ((1 : Int32).toInt64.toUInt64 &&& Int64.toUInt64 63)).toInt64) &&& 6148914691236517205)) &&& 3689348814741910323) + ((((a0 - (((a0.toUInt64 >>> ((1 : Int32).toInt64.toUInt64 &&& Int64.toUInt64 63)).toInt64) &&& 6148914691236517205)).toUInt64 >>> ((2 : Int32).toInt64.toUInt64 &&& Int64.toUInt64 63)).toInt64) &&& 3689348814741910323)).toUInt64 >>> ((4 : Int32).toInt64.toUInt64 &&& Int64.toUInt64 63)).toInt64)) &&& 1085102592571150095) + (((((((a0 - (((a0.toUInt64 >>> ((1 : Int32).toInt64.toUInt64 &&& Int64.toUInt64 63)).toInt64) &&& 6148914691236517205)) &&& 3689348814741910323) + ((((a0 - (((a0.toUInt64 >>> ((1 : Int32).toInt64.toUInt64 &&& Int64.toUInt64 63)).toInt64) &&& 6148914691236517205)).toUInt64 >>> ((2 : Int32).toInt64.toUInt64 &&& Int64.toUInt64 63)).toInt64) &&& 3689348814741910323)) + (((((a0 - (((a0.toUInt64 >>> ((1 : Int32).toInt64.toUInt64 &&& Int64.toUInt64 63)).toInt64) &&& 6148914691236517205)) &&& 3689348814741910323) + ((((a0 - (((a0.toUInt64 >>> ((1 : Int32).toInt64.toUInt64 &&& Int64.toUInt64 63)).toInt64) &&& 6148914691236517205)).toUInt64 >>> ((2 : Int32).toInt64.toUInt64 &&& Int64.toUInt64 63)).toInt64) &&& 3689348814741910323)).toUInt64 >>> ((4 : Int32).toInt64.toUInt64 &&& Int64.toUInt64 63)).toInt64)) &&& 1085102592571150095).toUInt64 >>> ((8 : Int32).toInt64.toUInt64 &&& Int64.toUInt64 63)).toInt64)).toUInt64 >>> ((16 : Int32).toInt64.toUInt64 &&& Int64.toUInt64 63)).toInt64)) + (((((((((a0 - (((a0.toUInt64 >>> ((1 : Int32).toInt64.toUInt64 &&& Int64.toUInt64 63)).toInt64) &&& 6148914691236517205)) &&& 3689348814741910323) + ((((a0 - (((a0.toUInt64 >>> ((1 : Int32).toInt64.toUInt64 &&& Int64.toUInt64 63)).toInt64) &&& 6148914691236517205)).toUInt64 >>> ((2 : Int32).toInt64.toUInt64 &&& Int64.toUInt64 63)).toInt64) &&& 3689348814741910323)) + (((((a0 - (((a0.toUInt64 >>> ((1 : Int32).toInt64.toUInt64 &&& Int64.toUInt64 63)).toInt64) &&& 6148914691236517205)) &&& 3689348814741910323) + ((((a0 - (((a0.toUInt64 >>> ((1 : Int32).toInt64.toUInt64 &&& Int64.toUInt64 63)).toInt64) &&& 6148914691236517205)).toUInt64 >>> ((2 : Int32).toInt64.toUInt64 &&& Int64.toUInt64 63)).toInt64) &&& 3689348814741910323)).toUInt64 >>> ((4 : Int32).toInt64.toUInt64 &&& Int64.toUInt64 63)).toInt64)) &&& 1085102592571150095) + (((((((a0 - (((a0.toUInt64 >>> ((1 : Int32).toInt64.toUInt64 &&& Int64.toUInt64 63)).toInt64) &&& 6148914691236517205)) &&& 3689348814741910323) + ((((a0 - (((a0.toUInt64 >>> ((1 : Int32).toInt64.toUInt64 &&& Int64.toUInt64 63)).toInt64) &&& 6148914691236517205)).toUInt64 >>> ((2 : Int32).toInt64.toUInt64 &&& Int64.toUInt64 63)).toInt64) &&& 3689348814741910323)) + (((((a0 - (((a0.toUInt64 >>> ((1 : Int32).toInt64.toUInt64 &&& Int64.toUInt64 63)).toInt64) &&& 6148914691236517205)) &&& 3689348814741910323) + ((((a0 - (((a0.toUInt64 >>> ((1 : Int32).toInt64.toUInt64 &&& Int64.toUInt64 63)).toInt64) &&& 6148914691236517205)).toUInt64 >>> ((2 : Int32).toInt64.toUInt64 &&& Int64.toUInt64 63)).toInt64) &&& 3689348814741910323)).toUInt64 >>> ((4 : Int32).toInt64.toUInt64 &&& Int64.toUInt64 63)).toInt64)) &&& 1085102592571150095).toUInt64 >>> ((8 : Int32).toInt64.toUInt64 &&& Int64.toUInt64 63)).toInt64)) + ((((((((a0 - (((a0.toUInt64 >>> ((1 : Int32).toInt64.toUInt64 &&& Int64.toUInt64 63)).toInt64) &&& 6148914691236517205)) &&& 3689348814741910323) + ((((a0 - (((a0.toUInt64 >>> ((1 : Int32).toInt64.toUInt64 &&& Int64.toUInt64 63)).toInt64) &&& 6148914691236517205)).toUInt64 >>> ((2 : Int32).toInt64.toUInt64 &&& Int64.toUInt64 63)).toInt64) &&& 3689348814741910323)) + (((((a0 - (((a0.toUInt64 >>> ((1 : Int32).toInt64.toUInt64 &&& Int64.toUInt64 63)).toInt64) &&& 6148914691236517205)) &&& 3689348814741910323) + ((((a0 - (((a0.toUInt64 >>> ((1 : Int32).toInt64.toUInt64 &&& Int64.toUInt64 63)).toInt64) &&& 6148914691236517205)).toUInt64 >>> ((2 : Int32).toInt64.toUInt64 &&& Int64.toUInt64 63)).toInt64) &&& 3689348814741910323)).toUInt64 >>> ((4 : Int32).toInt64.toUInt64 &&& Int64.toUInt64 63)).toInt64)) &&& 1085102592571150095) + (((((((a0 - (((a0.toUInt64 >>> ((1 : Int32).toInt64.toUInt64 &&& Int64.toUInt64 63)).toInt64) &&& 6148914691236517205)) &&& 3689348814741910323) + ((((a0 - (((a0.toUInt64 >>> ((1 : Int32).toInt64.toUInt64 &&& Int64.toUInt64 63)).toInt64) &&& 6148914691236517205)).toUInt64 >>> ((2 : Int32).toInt64.toUInt64 &&& Int64.toUInt64 63)).toInt64) &&& 3689348814741910323)) + (((((a0 - (((a0.toUInt64 >>> ((1 : Int32).toInt64.toUInt64 &&& Int64.toUInt64 63)).toInt64) &&& 6148914691236517205)) &&& 3689348814741910323) + ((((a0 - (((a0.toUInt64 >>> ((1 : Int32).toInt64.toUInt64 &&& Int64.toUInt64 63)).toInt64) &&& 6148914691236517205)).toUInt64 >>> ((2 : Int32).toInt64.toUInt64 &&& Int64.toUInt64 63)).toInt64) &&& 3689348814741910323)).toUInt64 >>> ((4 : Int32).toInt64.toUInt64 &&& Int64.toUInt64 63)).toInt64)) &&& 1085102592571150095).toUInt64 >>> ((8 : Int32).toInt64.toUInt64 &&& Int64.toUInt64 63)).toInt64)).toUInt64 >>> ((16 : Int32).toInt64.toUInt64 &&& Int64.toUInt64 63)).toInt64)).toUInt64 >>> ((32 : Int32).toInt64.toUInt64 &&& Int64.toUInt64 63)).toInt64)))]) hx hb dJ13_bitCount_95d88_54 rfl hl (by decide) rfl (fun ls hl => ?_)
  refine lv_lload_n hx hb dJ13_bitCount_95d88_55 rfl (lv_at hl 0 rfl) ?_
  refine lv_l2i hx hb dJ13_bitCount_95d88_56 rfl ?_
  refine lv_bipush (v := 127) hx hb dJ13_bitCount_95d88_57 (by decide) ?_
  refine lv_iand hx hb dJ13_bitCount_95d88_59 ?_
  cases hF
  exact retI C0 hr hlk hW hS dJ13_bitCount_95d88_60
theorem hdsX4_isIn : yX4_isIn.cls ≠ "java/lang/invoke/MethodHandle" ∧ yX4_isIn.cls ≠ "java/lang/invoke/VarHandle" ∧ (parseMethodDescriptor yX4_isIn.desc).map (fun d => d.parameters.length) = some 3 := by decide +kernel
def FX4_isIn (ns nb : Nat) (σ : Sg) (a0 : Int32) (a1 : Int32) (a2 : Int32) : Option (Int32 × Sg) :=
  if a0 < a1 then (some (0, σ)) else (if a2 < a0 then (some (0, σ)) else (some (1, σ)))
set_option maxHeartbeats 4000000 in
set_option maxRecDepth 100000 in
theorem kX4_isIn (l : Launch) (lo : Nat) (g : Gx) (h : Sh) (σ : Sg) (a0 : Int32) (a1 : Int32) (a2 : Int32)  (r : Int32) (σ1 : Sg) (hF : FX4_isIn h.1 h.2.1 σ a0 a1 a2 = some (r, σ1)) : MI l yX4_isIn (ws_ yX4_isIn cX4_isIn 3 (some .boolean)) 0 0 0 0 lo g h [.int a0, .int a1, .int a2] σ r σ1 := by
  refine ofB (own := RX4) (by decide +kernel) rfl (fun p e s m below meth c C0 hr hlk hlo hK hZ hW hS ls hl => ?_) (Nat.le_of_ble_eq_true rfl)
  have hx := C0.1
  have hb := C0.2.1
  have hl : lv_has ls 3 [(0, .int a0), (1, .int a1), (2, .int a2)] := hl
  unfold FX4_isIn at hF
  refine lv_iload_n hx hb dX4_isIn_0 rfl (lv_at hl 0 rfl) ?_
  refine lv_iload_n hx hb dX4_isIn_1 rfl (lv_at hl 1 rfl) ?_
  refine lv_icmp_lt (tgt := 14) hx hb dX4_isIn_2 (by decide) (fun c1 => ?_) (fun c1 => ?_)
  · rw [if_pos c1] at hF
    refine lv_iconst (v := 0) hx hb dX4_isIn_14 (by decide) ?_
    cases hF
    exact retZ C0 hr hlk (Or.inl rfl) hW hS dX4_isIn_15
  · rw [if_neg c1] at hF
    refine lv_iload_n hx hb dX4_isIn_5 rfl (lv_at hl 0 rfl) ?_
    refine lv_iload_n hx hb dX4_isIn_6 rfl (lv_at hl 2 rfl) ?_
    refine lv_icmp_gt (tgt := 14) hx hb dX4_isIn_7 (by decide) (fun c2 => ?_) (fun c2 => ?_)
    · rw [if_pos c2] at hF
      refine lv_iconst (v := 0) hx hb dX4_isIn_14 (by decide) ?_
      cases hF
      exact retZ C0 hr hlk (Or.inl rfl) hW hS dX4_isIn_15
    · rw [if_neg c2] at hF
      refine lv_iconst (v := 1) hx hb dX4_isIn_10 (by decide) ?_
      refine lv_goto (tgt := 15) hx hb dX4_isIn_11 (by decide) ?_
      cases hF
      exact retZ C0 hr hlk (Or.inr rfl) hW hS dX4_isIn_15
theorem hdsX4_remainder : yX4_remainder.cls ≠ "java/lang/invoke/MethodHandle" ∧ yX4_remainder.cls ≠ "java/lang/invoke/VarHandle" ∧ (parseMethodDescriptor yX4_remainder.desc).map (fun d => d.parameters.length) = some 2 := by decide +kernel
def FX4_remainder (ns nb : Nat) (σ : Sg) (a0 : Int32) (a1 : Int32) : Option (Int32 × Sg) :=
  if a1 ≤ 0 then (some (0, σ)) else (if a1 = 0 then none else (some (a0 - a0 / a1 * a1, σ)))
set_option maxHeartbeats 4000000 in
set_option maxRecDepth 100000 in
theorem kX4_remainder (l : Launch) (lo : Nat) (g : Gx) (h : Sh) (σ : Sg) (a0 : Int32) (a1 : Int32)  (r : Int32) (σ1 : Sg) (hF : FX4_remainder h.1 h.2.1 σ a0 a1 = some (r, σ1)) : MI l yX4_remainder (ws_ yX4_remainder cX4_remainder 2 (some .int)) 0 0 0 0 lo g h [.int a0, .int a1] σ r σ1 := by
  refine ofB (own := RX4) (by decide +kernel) rfl (fun p e s m below meth c C0 hr hlk hlo hK hZ hW hS ls hl => ?_) (Nat.le_of_ble_eq_true rfl)
  have hx := C0.1
  have hb := C0.2.1
  have hl : lv_has ls 2 [(0, .int a0), (1, .int a1)] := hl
  unfold FX4_remainder at hF
  refine lv_iload_n hx hb dX4_remainder_0 rfl (lv_at hl 1 rfl) ?_
  refine lv_if_le (tgt := 10) hx hb dX4_remainder_1 (by decide) (fun c1 => ?_) (fun c1 => ?_)
  · rw [if_pos c1] at hF
    refine lv_iconst (v := 0) hx hb dX4_remainder_10 (by decide) ?_
    cases hF
    exact retI C0 hr hlk hW hS dX4_remainder_11
  · rw [if_neg c1] at hF
    refine lv_iload_n hx hb dX4_remainder_4 rfl (lv_at hl 0 rfl) ?_
    refine lv_iload_n hx hb dX4_remainder_5 rfl (lv_at hl 1 rfl) ?_
    obtain ⟨hg, hF⟩ := grd hF
    refine lv_irem hx hb dX4_remainder_6 hg ?_
    refine lv_goto (tgt := 11) hx hb dX4_remainder_7 (by decide) ?_
    cases hF
    exact retI C0 hr hlk hW hS dX4_remainder_11
theorem hdsX4_at : yX4_at.cls ≠ "java/lang/invoke/MethodHandle" ∧ yX4_at.cls ≠ "java/lang/invoke/VarHandle" ∧ (parseMethodDescriptor yX4_at.desc).map (fun d => d.parameters.length) = some 2 := by decide +kernel
def FX4_at (ns nb : Nat) (σ : Sg) (k0 : Nat) (i0 : Nat) (a1 : Int32) : Option (Int32 × Sg) :=
  if a1 < 0 then (some (0, σ)) else (if (Int32.ofNat (aln k0)) ≤ a1 then (some (0, σ)) else (if (a1 < 0 ∨ aln k0 ≤ a1.toNatClampNeg) then none else (some (σ.1 k0 i0 a1.toNatClampNeg, σ))))
set_option maxHeartbeats 4000000 in
set_option maxRecDepth 100000 in
theorem kX4_at (l : Launch) (lo : Nat) (g : Gx) (h : Sh) (σ : Sg) (k0 i0 : Nat) (a1 : Int32) (hk0 : al h k0 i0) (hn0 : aln k0 ≠ 0) (r : Int32) (σ1 : Sg) (hF : FX4_at h.1 h.2.1 σ k0 i0 a1 = some (r, σ1)) : MI l yX4_at (ws_ yX4_at cX4_at 2 (some .int)) 0 0 0 0 lo g h [.ref (h.2.2 k0 i0), .int a1] σ r σ1 := by
  refine ofB (own := RX4) (by decide +kernel) rfl (fun p e s m below meth c C0 hr hlk hlo hK hZ hW hS ls hl => ?_) (Nat.le_of_ble_eq_true rfl)
  have hx := C0.1
  have hb := C0.2.1
  have hl : lv_has ls 2 [(0, .ref (h.2.2 k0 i0)), (1, .int a1)] := hl
  unfold FX4_at at hF
  refine lv_iload_n hx hb dX4_at_0 rfl (lv_at hl 1 rfl) ?_
  refine lv_if_lt (tgt := 16) hx hb dX4_at_1 (by decide) (fun c1 => ?_) (fun c1 => ?_)
  · rw [if_pos c1] at hF
    refine lv_iconst (v := 0) hx hb dX4_at_16 (by decide) ?_
    cases hF
    exact retI C0 hr hlk hW hS dX4_at_17
  · rw [if_neg c1] at hF
    refine lv_iload_n hx hb dX4_at_4 rfl (lv_at hl 1 rfl) ?_
    refine lv_aload_n hx hb dX4_at_5 rfl (lv_at hl 0 rfl) ?_
    refine alen C0 hK hW k0 i0 hk0 hn0 rfl dX4_at_6 ?_
    refine lv_icmp_ge (tgt := 16) hx hb dX4_at_7 (by decide) (fun c2 => ?_) (fun c2 => ?_)
    · rw [if_pos c2] at hF
      refine lv_iconst (v := 0) hx hb dX4_at_16 (by decide) ?_
      cases hF
      exact retI C0 hr hlk hW hS dX4_at_17
    · rw [if_neg c2] at hF
      refine lv_aload_n hx hb dX4_at_10 rfl (lv_at hl 0 rfl) ?_
      refine lv_iload_n hx hb dX4_at_11 rfl (lv_at hl 1 rfl) ?_
      obtain ⟨hg, hF⟩ := grd hF
      refine ald C0 hK hW k0 i0 hk0 hn0 hg dX4_at_12 ?_
      refine lv_goto (tgt := 17) hx hb dX4_at_13 (by decide) ?_
      cases hF
      exact retI C0 hr hlk hW hS dX4_at_17
theorem hdsX4_put : yX4_put.cls ≠ "java/lang/invoke/MethodHandle" ∧ yX4_put.cls ≠ "java/lang/invoke/VarHandle" ∧ (parseMethodDescriptor yX4_put.desc).map (fun d => d.parameters.length) = some 3 := by decide +kernel
def FX4_put (ns nb : Nat) (σ : Sg) (k0 : Nat) (i0 : Nat) (a1 : Int32) (a2 : Int32) : Option Sg :=
  if a1 < 0 then (some σ) else (if (Int32.ofNat (aln k0)) ≤ a1 then (some σ) else (if (a1 < 0 ∨ aln k0 ≤ a1.toNatClampNeg) then none else (some (sI σ k0 i0 a1.toNatClampNeg a2))))
set_option maxHeartbeats 4000000 in
set_option maxRecDepth 100000 in
theorem kX4_put (l : Launch) (lo : Nat) (g : Gx) (h : Sh) (σ : Sg) (k0 i0 : Nat) (a1 : Int32) (a2 : Int32) (hk0 : al h k0 i0) (hn0 : aln k0 ≠ 0) (σ1 : Sg) (hF : FX4_put h.1 h.2.1 σ k0 i0 a1 a2 = some σ1) : MV l yX4_put (ws_ yX4_put cX4_put 3 none) 0 0 0 0 lo g h [.ref (h.2.2 k0 i0), .int a1, .int a2] σ σ1 := by
  refine ofB (own := RX4) (by decide +kernel) rfl (fun p e s m below meth c C0 hr hlk hlo hK hZ hW hS ls hl => ?_) (Nat.le_of_ble_eq_true rfl)
  have hx := C0.1
  have hb := C0.2.1
  have hl : lv_has ls 3 [(0, .ref (h.2.2 k0 i0)), (1, .int a1), (2, .int a2)] := hl
  unfold FX4_put at hF
  refine lv_iload_n hx hb dX4_put_0 rfl (lv_at hl 1 rfl) ?_
  refine lv_if_lt (tgt := 14) hx hb dX4_put_1 (by decide) (fun c1 => ?_) (fun c1 => ?_)
  · rw [if_pos c1] at hF
    cases hF
    exact retV C0 hr hlk hW hS dX4_put_14
  · rw [if_neg c1] at hF
    refine lv_iload_n hx hb dX4_put_4 rfl (lv_at hl 1 rfl) ?_
    refine lv_aload_n hx hb dX4_put_5 rfl (lv_at hl 0 rfl) ?_
    refine alen C0 hK hW k0 i0 hk0 hn0 rfl dX4_put_6 ?_
    refine lv_icmp_ge (tgt := 14) hx hb dX4_put_7 (by decide) (fun c2 => ?_) (fun c2 => ?_)
    · rw [if_pos c2] at hF
      cases hF
      exact retV C0 hr hlk hW hS dX4_put_14
    · rw [if_neg c2] at hF
      refine lv_aload_n hx hb dX4_put_10 rfl (lv_at hl 0 rfl) ?_
      refine lv_iload_n hx hb dX4_put_11 rfl (lv_at hl 1 rfl) ?_
      refine lv_iload_n hx hb dX4_put_12 rfl (lv_at hl 2 rfl) ?_
      obtain ⟨hg, hF⟩ := grd hF
      refine ast C0 hK hW hS k0 i0 hk0 hn0 hg dX4_put_13 (fun H locs hW hS => ?_)
      cases hF
      exact retV C0 hr hlk hW hS dX4_put_14
theorem hdsX4_pairBit : yX4_pairBit.cls ≠ "java/lang/invoke/MethodHandle" ∧ yX4_pairBit.cls ≠ "java/lang/invoke/VarHandle" ∧ (parseMethodDescriptor yX4_pairBit.desc).map (fun d => d.parameters.length) = some 2 := by decide +kernel
def FX4_pairBit (ns nb : Nat) (σ : Sg) (a0 : Int32) (a1 : Int32) : Option (Int32 × Sg) :=
  some (1 <<< ((((mnI a0 a1) * 4) + (mxI a0 a1)) &&& 31), σ)
set_option maxHeartbeats 4000000 in
set_option maxRecDepth 100000 in
theorem kX4_pairBit (l : Launch) (lo : Nat) (g : Gx) (h : Sh) (σ : Sg) (a0 : Int32) (a1 : Int32)  (r : Int32) (σ1 : Sg) (hF : FX4_pairBit h.1 h.2.1 σ a0 a1 = some (r, σ1)) : MI l yX4_pairBit (ws_ yX4_pairBit cX4_pairBit 2 (some .int)) 1 23 0 0 lo g h [.int a0, .int a1] σ r σ1 := by
  refine ofB (own := RX4) (by decide +kernel) rfl (fun p e s m below meth c C0 hr hlk hlo hK hZ hW hS ls hl => ?_) (Nat.le_of_ble_eq_true rfl)
  have hx := C0.1
  have hb := C0.2.1
  have hl : lv_has ls 2 [(0, .int a0), (1, .int a1)] := hl
  unfold FX4_pairBit at hF
  refine lv_iconst (v := 1) hx hb dX4_pairBit_0 (by decide) ?_
  refine lv_iload_n hx hb dX4_pairBit_1 rfl (lv_at hl 0 rfl) ?_
  refine lv_iload_n hx hb dX4_pairBit_2 rfl (lv_at hl 1 rfl) ?_
  refine r_min C0 hl.1 wML_X4_66 (Nat.le_of_ble_eq_true rfl) (Nat.le_of_ble_eq_true rfl) (Nat.le_of_ble_eq_true rfl) (Nat.le_of_ble_eq_true rfl) dX4_pairBit_3 ?_
  refine lv_iconst (v := 4) hx hb dX4_pairBit_6 (by decide) ?_
  refine lv_imul hx hb dX4_pairBit_7 ?_
  refine lv_iload_n hx hb dX4_pairBit_8 rfl (lv_at hl 0 rfl) ?_
  refine lv_iload_n hx hb dX4_pairBit_9 rfl (lv_at hl 1 rfl) ?_
  refine r_max C0 hl.1 wML_X4_262 (Nat.le_of_ble_eq_true rfl) (Nat.le_of_ble_eq_true rfl) (Nat.le_of_ble_eq_true rfl) (Nat.le_of_ble_eq_true rfl) dX4_pairBit_10 ?_
  refine lv_iadd hx hb dX4_pairBit_13 ?_
  refine lv_ishl hx hb dX4_pairBit_14 ?_
  cases hF
  exact retI C0 hr hlk hW hS dX4_pairBit_15
theorem hdsX4_shareBetween : yX4_shareBetween.cls ≠ "java/lang/invoke/MethodHandle" ∧ yX4_shareBetween.cls ≠ "java/lang/invoke/VarHandle" ∧ (parseMethodDescriptor yX4_shareBetween.desc).map (fun d => d.parameters.length) = some 2 := by decide +kernel
def FX4_shareBetween (ns nb : Nat) (σ : Sg) (o0 : Option Nat) (o1 : Option Nat) : Option Sg :=
  oc o0 (oc o1 (some σ) (fun i1 => if i1 < ns then (some σ) else none)) (fun i0 => if i0 < ns then (oc o1 (some σ) (fun i1 => if i1 < ns then (some (sI (sI σ 5 i0 1 ((σ.1 5 i0 1) - (((σ.1 5 i0 1) - (σ.1 5 i1 1)) / 10))) 5 i1 1 (((sI σ 5 i0 1 ((σ.1 5 i0 1) - (((σ.1 5 i0 1) - (σ.1 5 i1 1)) / 10))).1 5 i1 1) + (((σ.1 5 i0 1) - (σ.1 5 i1 1)) / 10)))) else none)) else none)
set_option maxHeartbeats 4000000 in
set_option maxRecDepth 100000 in
theorem kX4_shareBetween (l : Launch) (lo : Nat) (g : Gx) (h : Sh) (σ : Sg) (o0 : Option Nat) (o1 : Option Nat)  (σ1 : Sg) (hF : FX4_shareBetween h.1 h.2.1 σ o0 o1 = some σ1) : MV l yX4_shareBetween (ws_ yX4_shareBetween cX4_shareBetween 3 none) 0 0 0 0 lo g h [va_rf (o0.map (h.2.2 5)), va_rf (o1.map (h.2.2 5))] σ σ1 := by
  refine ofB (own := RX4) (by decide +kernel) rfl (fun p e s m below meth c C0 hr hlk hlo hK hZ hW hS ls hl => ?_) (by cases o0 <;> cases o1 <;> exact Nat.le_of_ble_eq_true rfl)
  have hx := C0.1
  have hb := C0.2.1
  unfold FX4_shareBetween at hF
  cases o0 with
  | none =>
    rw [oc_n] at hF
    cases o1 with
    | none =>
      rw [oc_n] at hF
      have hl : lv_has ls 3 [(0, .null), (1, .null)] := hl
      refine lv_aload_nN hx hb dX4_shareBetween_0 rfl (lv_at hl 0 rfl) ?_
      refine lv_ifnullN (tgt := 41) hx hb dX4_shareBetween_1 (by decide) ?_
      cases hF
      exact retV C0 hr hlk hW hS dX4_shareBetween_41
    | some i1 =>
      rw [oc_s] at hF
      obtain ⟨hi1, hF⟩ := grp hF
      have hl : lv_has ls 3 [(0, .null), (1, .ref (h.2.2 5 i1))] := hl
      refine lv_aload_nN hx hb dX4_shareBetween_0 rfl (lv_at hl 0 rfl) ?_
      refine lv_ifnullN (tgt := 41) hx hb dX4_shareBetween_1 (by decide) ?_
      cases hF
      exact retV C0 hr hlk hW hS dX4_shareBetween_41
  | some i0 =>
    rw [oc_s] at hF
    obtain ⟨hi0, hF⟩ := grp hF
    cases o1 with
    | none =>
      rw [oc_n] at hF
      have hl : lv_has ls 3 [(0, .ref (h.2.2 5 i0)), (1, .null)] := hl
      refine lv_aload_n hx hb dX4_shareBetween_0 rfl (lv_at hl 0 rfl) ?_
      refine lv_ifnull hx hb dX4_shareBetween_1 ?_
      refine lv_aload_nN hx hb dX4_shareBetween_4 rfl (lv_at hl 1 rfl) ?_
      refine lv_ifnullN (tgt := 41) hx hb dX4_shareBetween_5 (by decide) ?_
      cases hF
      exact retV C0 hr hlk hW hS dX4_shareBetween_41
    | some i1 =>
      rw [oc_s] at hF
      obtain ⟨hi1, hF⟩ := grp hF
      have hl : lv_has ls 3 [(0, .ref (h.2.2 5 i0)), (1, .ref (h.2.2 5 i1))] := hl
      refine lv_aload_n hx hb dX4_shareBetween_0 rfl (lv_at hl 0 rfl) ?_
      refine lv_ifnull hx hb dX4_shareBetween_1 ?_
      refine lv_aload_n hx hb dX4_shareBetween_4 rfl (lv_at hl 1 rfl) ?_
      refine lv_ifnull hx hb dX4_shareBetween_5 ?_
      refine lv_aload_n hx hb dX4_shareBetween_8 rfl (lv_at hl 0 rfl) ?_
      refine get5 C0 hK hW i0 (al5 hi0) 1 (by decide) wFL_X4_63 rfl rfl dX4_shareBetween_9 ?_
      refine lv_aload_n hx hb dX4_shareBetween_12 rfl (lv_at hl 1 rfl) ?_
      refine get5 C0 hK hW i1 (al5 hi1) 1 (by decide) wFL_X4_63 rfl rfl dX4_shareBetween_13 ?_
      refine lv_isub hx hb dX4_shareBetween_16 ?_
      refine lv_bipush (v := 10) hx hb dX4_shareBetween_17 (by decide) ?_
      refine lv_idiv hx hb dX4_shareBetween_19 (by decide) ?_
      refine lv_istore_n (lv' := [(2, .int (((σ.1 5 i0 1) - (σ.1 5 i1 1)) / 10)), (0, .ref (h.2.2 5 i0)), (1, .ref (h.2.2 5 i1))]) hx hb dX4_shareBetween_20 rfl hl (by decide) rfl (fun ls hl => ?_)
      refine lv_aload_n hx hb dX4_shareBetween_21 rfl (lv_at hl 1 rfl) ?_
      refine lv_dup hx hb dX4_shareBetween_22 rfl ?_
      refine get5 C0 hK hW i0 (al5 hi0) 1 (by decide) wFL_X4_63 rfl rfl dX4_shareBetween_23 ?_
      refine lv_iload_n hx hb dX4_shareBetween_26 rfl (lv_at hl 0 rfl) ?_
      refine lv_isub hx hb dX4_shareBetween_27 ?_
      refine put5_1 C0 hK hW hS i0 (al5 hi0) wFL_X4_63 dX4_shareBetween_28 (fun H locs hW hS => ?_)
      refine lv_aload_n hx hb dX4_shareBetween_31 rfl (lv_at hl 2 rfl) ?_
      refine lv_dup hx hb dX4_shareBetween_32 rfl ?_
      refine get5 C0 hK hW i1 (al5 hi1) 1 (by decide) wFL_X4_63 rfl rfl dX4_shareBetween_33 ?_
      refine lv_iload_n hx hb dX4_shareBetween_36 rfl (lv_at hl 0 rfl) ?_
      refine lv_iadd hx hb dX4_shareBetween_37 ?_
      refine put5_1 C0 hK hW hS i1 (al5 hi1) wFL_X4_63 dX4_shareBetween_38 (fun H locs hW hS => ?_)
      cases hF
      exact retV C0 hr hlk hW hS dX4_shareBetween_41
theorem hdX3_speedUnder : yX3_speedUnder.cls = RX3 ∧ yX3_speedUnder.cls ≠ "java/lang/invoke/MethodHandle" ∧ yX3_speedUnder.cls ≠ "java/lang/invoke/VarHandle" ∧ (parseMethodDescriptor yX3_speedUnder.desc).map (fun d => d.parameters.length) = some 1 := by decide +kernel
def FX3_speedUnder (ns nb : Nat) (σ : Sg) (i0 : Nat) (a1 : Int32) : Option (Int32 × Sg) :=
  if (200 * a1) ≤ 0 then (some ((mnI (mnI (mxI 0 1) 400) (σ.1 5 i0 1)), σ)) else (if (200 * a1) = 0 then none else (some ((mnI (mnI (mxI (((σ.1 5 i0 0) * (σ.1 5 i0 1)) / (200 * a1)) 1) 400) (σ.1 5 i0 1)), σ)))
set_option maxHeartbeats 4000000 in
set_option maxRecDepth 100000 in
theorem kX3_speedUnder (l : Launch) (lo : Nat) (g : Gx) (h : Sh) (σ : Sg) (i0 : Nat) (a1 : Int32) (hi0 : i0 < h.1) (r : Int32) (σ1 : Sg) (hF : FX3_speedUnder h.1 h.2.1 σ i0 a1 = some (r, σ1)) : MI l yX3_speedUnder (ws_ yX3_speedUnder cX3_speedUnder 4 (some .int)) 1 23 0 0 lo g h [.ref (h.2.2 5 i0), .int a1] σ r σ1 := by
  refine ofB (own := RX3) (by decide +kernel) rfl (fun p e s m below meth c C0 hr hlk hlo hK hZ hW hS ls hl => ?_) (Nat.le_of_ble_eq_true rfl)
  have hx := C0.1
  have hb := C0.2.1
  have hl : lv_has ls 4 [(0, .ref (h.2.2 5 i0)), (1, .int a1)] := hl
  unfold FX3_speedUnder at hF
  refine lv_sipush (v := 200) hx hb dX3_speedUnder_0 (by decide) ?_
  refine lv_iload_n hx hb dX3_speedUnder_3 rfl (lv_at hl 1 rfl) ?_
  refine lv_imul hx hb dX3_speedUnder_4 ?_
  refine lv_istore_n (lv' := [(2, .int (200 * a1)), (0, .ref (h.2.2 5 i0)), (1, .int a1)]) hx hb dX3_speedUnder_5 rfl hl (by decide) rfl (fun ls hl => ?_)
  refine lv_iload_n hx hb dX3_speedUnder_6 rfl (lv_at hl 0 rfl) ?_
  refine lv_if_le (tgt := 24) hx hb dX3_speedUnder_7 (by decide) (fun c1 => ?_) (fun c1 => ?_)
  · rw [if_pos c1] at hF
    refine lv_iconst (v := 0) hx hb dX3_speedUnder_24 (by decide) ?_
    refine lv_istore_n (lv' := [(3, .int 0), (2, .int (200 * a1)), (0, .ref (h.2.2 5 i0)), (1, .int a1)]) hx hb dX3_speedUnder_25 rfl hl (by decide) rfl (fun ls hl => ?_)
    refine lv_iload_n hx hb dX3_speedUnder_26 rfl (lv_at hl 0 rfl) ?_
    refine lv_iconst (v := 1) hx hb dX3_speedUnder_27 (by decide) ?_
    refine r_max C0 hl.1 wML_X3_34 (Nat.le_of_ble_eq_true rfl) (Nat.le_of_ble_eq_true rfl) (Nat.le_of_ble_eq_true rfl) (Nat.le_of_ble_eq_true rfl) dX3_speedUnder_28 ?_
    refine lv_sipush (v := 400) hx hb dX3_speedUnder_31 (by decide) ?_
    refine r_min C0 hl.1 wML_X3_40 (Nat.le_of_ble_eq_true rfl) (Nat.le_of_ble_eq_true rfl) (Nat.le_of_ble_eq_true rfl) (Nat.le_of_ble_eq_true rfl) dX3_speedUnder_34 ?_
    refine lv_aload_n hx hb dX3_speedUnder_37 rfl (lv_at hl 2 rfl) ?_
    refine get5 C0 hK hW i0 (al5 hi0) 1 (by decide) wFL_X3_15 rfl rfl dX3_speedUnder_38 ?_
    refine r_min C0 hl.1 wML_X3_40 (Nat.le_of_ble_eq_true rfl) (Nat.le_of_ble_eq_true rfl) (Nat.le_of_ble_eq_true rfl) (Nat.le_of_ble_eq_true rfl) dX3_speedUnder_41 ?_
    cases hF
    exact retI C0 hr hlk hW hS dX3_speedUnder_44
  · rw [if_neg c1] at hF
    refine lv_aload_n hx hb dX3_speedUnder_10 rfl (lv_at hl 1 rfl) ?_
    refine get5 C0 hK hW i0 (al5 hi0) 0 (by decide) wFL_X3_9 rfl rfl dX3_speedUnder_11 ?_
    refine lv_aload_n hx hb dX3_speedUnder_14 rfl (lv_at hl 1 rfl) ?_
    refine get5 C0 hK hW i0 (al5 hi0) 1 (by decide) wFL_X3_15 rfl rfl dX3_speedUnder_15 ?_
    refine lv_imul hx hb dX3_speedUnder_18 ?_
    refine lv_iload_n hx hb dX3_speedUnder_19 rfl (lv_at hl 0 rfl) ?_
    obtain ⟨hg, hF⟩ := grd hF
    refine lv_idiv hx hb dX3_speedUnder_20 hg ?_
    refine lv_goto (tgt := 25) hx hb dX3_speedUnder_21 (by decide) ?_
    refine lv_istore_n (lv' := [(3, .int (((σ.1 5 i0 0) * (σ.1 5 i0 1)) / (200 * a1))), (2, .int (200 * a1)), (0, .ref (h.2.2 5 i0)), (1, .int a1)]) hx hb dX3_speedUnder_25 rfl hl (by decide) rfl (fun ls hl => ?_)
    refine lv_iload_n hx hb dX3_speedUnder_26 rfl (lv_at hl 0 rfl) ?_
    refine lv_iconst (v := 1) hx hb dX3_speedUnder_27 (by decide) ?_
    refine r_max C0 hl.1 wML_X3_34 (Nat.le_of_ble_eq_true rfl) (Nat.le_of_ble_eq_true rfl) (Nat.le_of_ble_eq_true rfl) (Nat.le_of_ble_eq_true rfl) dX3_speedUnder_28 ?_
    refine lv_sipush (v := 400) hx hb dX3_speedUnder_31 (by decide) ?_
    refine r_min C0 hl.1 wML_X3_40 (Nat.le_of_ble_eq_true rfl) (Nat.le_of_ble_eq_true rfl) (Nat.le_of_ble_eq_true rfl) (Nat.le_of_ble_eq_true rfl) dX3_speedUnder_34 ?_
    refine lv_aload_n hx hb dX3_speedUnder_37 rfl (lv_at hl 2 rfl) ?_
    refine get5 C0 hK hW i0 (al5 hi0) 1 (by decide) wFL_X3_15 rfl rfl dX3_speedUnder_38 ?_
    refine r_min C0 hl.1 wML_X3_40 (Nat.le_of_ble_eq_true rfl) (Nat.le_of_ble_eq_true rfl) (Nat.le_of_ble_eq_true rfl) (Nat.le_of_ble_eq_true rfl) dX3_speedUnder_41 ?_
    cases hF
    exact retI C0 hr hlk hW hS dX3_speedUnder_44
theorem hdX3_turn : yX3_turn.cls = RX3 ∧ yX3_turn.cls ≠ "java/lang/invoke/MethodHandle" ∧ yX3_turn.cls ≠ "java/lang/invoke/VarHandle" ∧ (parseMethodDescriptor yX3_turn.desc).map (fun d => d.parameters.length) = some 1 := by decide +kernel
def FX3_turn (ns nb : Nat) (σ : Sg) (i0 : Nat) (a1 : Int32) : Option Sg :=
  some (sI (sL (sI σ 5 i0 3 a1) 5 i0 2 (((sI σ 5 i0 3 a1).2 5 i0 2) + a1.toInt64)) 5 i0 1 (((sL (sI σ 5 i0 3 a1) 5 i0 2 (((sI σ 5 i0 3 a1).2 5 i0 2) + a1.toInt64)).1 5 i0 1) - a1))
set_option maxHeartbeats 4000000 in
set_option maxRecDepth 100000 in
theorem kX3_turn (l : Launch) (lo : Nat) (g : Gx) (h : Sh) (σ : Sg) (i0 : Nat) (a1 : Int32) (hi0 : i0 < h.1) (σ1 : Sg) (hF : FX3_turn h.1 h.2.1 σ i0 a1 = some σ1) : MV l yX3_turn (ws_ yX3_turn cX3_turn 2 none) 0 0 0 0 lo g h [.ref (h.2.2 5 i0), .int a1] σ σ1 := by
  refine ofB (own := RX3) (by decide +kernel) rfl (fun p e s m below meth c C0 hr hlk hlo hK hZ hW hS ls hl => ?_) (Nat.le_of_ble_eq_true rfl)
  have hx := C0.1
  have hb := C0.2.1
  have hl : lv_has ls 2 [(0, .ref (h.2.2 5 i0)), (1, .int a1)] := hl
  unfold FX3_turn at hF
  refine lv_aload_n hx hb dX3_turn_0 rfl (lv_at hl 0 rfl) ?_
  refine lv_iload_n hx hb dX3_turn_1 rfl (lv_at hl 1 rfl) ?_
  refine put5_3 C0 hK hW hS i0 (al5 hi0) wFL_X3_28 dX3_turn_2 (fun H locs hW hS => ?_)
  refine lv_aload_n hx hb dX3_turn_5 rfl (lv_at hl 0 rfl) ?_
  refine lv_dup hx hb dX3_turn_6 rfl ?_
  refine get5 C0 hK hW i0 (al5 hi0) 2 (by decide) wFL_X3_21 rfl rfl dX3_turn_7 ?_
  refine lv_iload_n hx hb dX3_turn_10 rfl (lv_at hl 1 rfl) ?_
  refine lv_i2l hx hb dX3_turn_11 rfl ?_
  refine lv_ladd hx hb dX3_turn_12 ?_
  refine put5_2 C0 hK hW hS i0 (al5 hi0) wFL_X3_21 dX3_turn_13 (fun H locs hW hS => ?_)
  refine lv_aload_n hx hb dX3_turn_16 rfl (lv_at hl 0 rfl) ?_
  refine lv_dup hx hb dX3_turn_17 rfl ?_
  refine get5 C0 hK hW i0 (al5 hi0) 1 (by decide) wFL_X3_15 rfl rfl dX3_turn_18 ?_
  refine lv_iload_n hx hb dX3_turn_21 rfl (lv_at hl 1 rfl) ?_
  refine lv_isub hx hb dX3_turn_22 ?_
  refine put5_1 C0 hK hW hS i0 (al5 hi0) wFL_X3_15 dX3_turn_23 (fun H locs hW hS => ?_)
  cases hF
  exact retV C0 hr hlk hW hS dX3_turn_26
theorem hdX3_payForNote : yX3_payForNote.cls = RX3 ∧ yX3_payForNote.cls ≠ "java/lang/invoke/MethodHandle" ∧ yX3_payForNote.cls ≠ "java/lang/invoke/VarHandle" ∧ (parseMethodDescriptor yX3_payForNote.desc).map (fun d => d.parameters.length) = some 0 := by decide +kernel
def FX3_payForNote (ns nb : Nat) (σ : Sg) (i0 : Nat) : Option Sg :=
  some (sI σ 5 i0 1 ((σ.1 5 i0 1) - (mnI 10 (σ.1 5 i0 1))))
set_option maxHeartbeats 4000000 in
set_option maxRecDepth 100000 in
theorem kX3_payForNote (l : Launch) (lo : Nat) (g : Gx) (h : Sh) (σ : Sg) (i0 : Nat) (hi0 : i0 < h.1) (σ1 : Sg) (hF : FX3_payForNote h.1 h.2.1 σ i0 = some σ1) : MV l yX3_payForNote (ws_ yX3_payForNote cX3_payForNote 1 none) 1 23 0 0 lo g h [.ref (h.2.2 5 i0)] σ σ1 := by
  refine ofB (own := RX3) (by decide +kernel) rfl (fun p e s m below meth c C0 hr hlk hlo hK hZ hW hS ls hl => ?_) (Nat.le_of_ble_eq_true rfl)
  have hx := C0.1
  have hb := C0.2.1
  have hl : lv_has ls 1 [(0, .ref (h.2.2 5 i0))] := hl
  unfold FX3_payForNote at hF
  refine lv_aload_n hx hb dX3_payForNote_0 rfl (lv_at hl 0 rfl) ?_
  refine lv_dup hx hb dX3_payForNote_1 rfl ?_
  refine get5 C0 hK hW i0 (al5 hi0) 1 (by decide) wFL_X3_15 rfl rfl dX3_payForNote_2 ?_
  refine lv_bipush (v := 10) hx hb dX3_payForNote_5 (by decide) ?_
  refine lv_aload_n hx hb dX3_payForNote_7 rfl (lv_at hl 0 rfl) ?_
  refine get5 C0 hK hW i0 (al5 hi0) 1 (by decide) wFL_X3_15 rfl rfl dX3_payForNote_8 ?_
  refine r_min C0 hl.1 wML_X3_40 (Nat.le_of_ble_eq_true rfl) (Nat.le_of_ble_eq_true rfl) (Nat.le_of_ble_eq_true rfl) (Nat.le_of_ble_eq_true rfl) dX3_payForNote_11 ?_
  refine lv_isub hx hb dX3_payForNote_14 ?_
  refine put5_1 C0 hK hW hS i0 (al5 hi0) wFL_X3_15 dX3_payForNote_15 (fun H locs hW hS => ?_)
  cases hF
  exact retV C0 hr hlk hW hS dX3_payForNote_18
theorem hdX2_hear : yX2_hear.cls = RX2 ∧ yX2_hear.cls ≠ "java/lang/invoke/MethodHandle" ∧ yX2_hear.cls ≠ "java/lang/invoke/VarHandle" ∧ (parseMethodDescriptor yX2_hear.desc).map (fun d => d.parameters.length) = some 4 := by decide +kernel
def FX2_hear (ns nb : Nat) (σ : Sg) (a1 : Int32) (a2 : Int32) (a3 : Int32) (a4 : Int32) : Option Sg :=
  if 250 ≤ ((sI σ 3 0 2 ((σ.1 3 0 2) + 1)).1 3 0 1) then (some (sI σ 3 0 2 ((σ.1 3 0 2) + 1))) else ((FX4_put ns nb (sI σ 3 0 2 ((σ.1 3 0 2) + 1)) 4 0 (((sI σ 3 0 2 ((σ.1 3 0 2) + 1)).1 3 0 1) * 4) a1).bind fun z2 => (FX4_put ns nb z2 4 0 ((((sI σ 3 0 2 ((σ.1 3 0 2) + 1)).1 3 0 1) * 4) + 1) a2).bind fun z3 => (FX4_put ns nb z3 4 0 ((((sI σ 3 0 2 ((σ.1 3 0 2) + 1)).1 3 0 1) * 4) + 2) a3).bind fun z4 => (FX4_put ns nb z4 4 0 ((((sI σ 3 0 2 ((σ.1 3 0 2) + 1)).1 3 0 1) * 4) + 3) a4).bind fun z5 => some (sI z5 3 0 1 ((z5.1 3 0 1) + 1)))
set_option maxHeartbeats 4000000 in
set_option maxRecDepth 100000 in
theorem kX2_hear (l : Launch) (lo : Nat) (g : Gx) (h : Sh) (σ : Sg) (a1 : Int32) (a2 : Int32) (a3 : Int32) (a4 : Int32)  (σ1 : Sg) (hF : FX2_hear h.1 h.2.1 σ a1 a2 a3 a4 = some σ1) : MV l yX2_hear (ws_ yX2_hear cX2_hear 6 none) 1 22 0 0 lo g h [.ref (h.2.2 3 0), .int a1, .int a2, .int a3, .int a4] σ σ1 := by
  refine ofB (own := RX2) (by decide +kernel) rfl (fun p e s m below meth c C0 hr hlk hlo hK hZ hW hS ls hl => ?_) (Nat.le_of_ble_eq_true rfl)
  have hx := C0.1
  have hb := C0.2.1
  have hl : lv_has ls 6 [(0, .ref (h.2.2 3 0)), (1, .int a1), (2, .int a2), (3, .int a3), (4, .int a4)] := hl
  unfold FX2_hear at hF
  refine lv_aload_n hx hb dX2_hear_0 rfl (lv_at hl 0 rfl) ?_
  refine lv_dup hx hb dX2_hear_1 rfl ?_
  refine get3 C0 hK hW 0 (al0 h 3 (by decide)) 2 (by decide) wFL_X2_22 rfl rfl dX2_hear_2 ?_
  refine lv_iconst (v := 1) hx hb dX2_hear_5 (by decide) ?_
  refine lv_iadd hx hb dX2_hear_6 ?_
  refine put3_2 C0 hK hW hS 0 (al0 h 3 (by decide)) wFL_X2_22 dX2_hear_7 (fun H locs hW hS => ?_)
  refine lv_aload_n hx hb dX2_hear_10 rfl (lv_at hl 0 rfl) ?_
  refine get3 C0 hK hW 0 (al0 h 3 (by decide)) 1 (by decide) wFL_X2_15 rfl rfl dX2_hear_11 ?_
  refine lv_sipush (v := 250) hx hb dX2_hear_14 (by decide) ?_
  refine lv_icmp_ge (tgt := 85) hx hb dX2_hear_17 (by decide) (fun c1 => ?_) (fun c1 => ?_)
  · rw [if_pos c1] at hF
    cases hF
    exact retV C0 hr hlk hW hS dX2_hear_85
  · rw [if_neg c1] at hF
    refine lv_aload_n hx hb dX2_hear_20 rfl (lv_at hl 0 rfl) ?_
    refine get3 C0 hK hW 0 (al0 h 3 (by decide)) 1 (by decide) wFL_X2_15 rfl rfl dX2_hear_21 ?_
    refine lv_iconst (v := 4) hx hb dX2_hear_24 (by decide) ?_
    refine lv_imul hx hb dX2_hear_25 ?_
    refine lv_istore (lv' := [(5, .int (((sI σ 3 0 2 ((σ.1 3 0 2) + 1)).1 3 0 1) * 4)), (0, .ref (h.2.2 3 0)), (1, .int a1), (2, .int a2), (3, .int a3), (4, .int a4)]) hx hb dX2_hear_26 hl (by decide) rfl (fun ls hl => ?_)
    refine lv_aload_n hx hb dX2_hear_28 rfl (lv_at hl 1 rfl) ?_
    refine get3 C0 hK hW 0 (al0 h 3 (by decide)) 0 (by decide) wFL_X2_9 rfl rfl dX2_hear_29 ?_
    refine lv_iload hx hb dX2_hear_32 (lv_at hl 0 rfl) ?_
    refine lv_iload_n hx hb dX2_hear_34 rfl (lv_at hl 2 rfl) ?_
    obtain ⟨z2, hz2, hF⟩ := bnd hF
    refine inV (runN (host := "BirdParlour") C0 hlo hK hZ hW hS (kX4_put l lo g h _ 4 0 (((sI σ 3 0 2 ((σ.1 3 0 2) + 1)).1 3 0 1) * 4) a1 (al0 h 4 (by decide)) (by decide) _ hz2) wCO_X4_put (by decide +kernel) wST_X4_put wIN_X4 hdsX4_put ⟨Nat.le_of_ble_eq_true rfl, Nat.le_of_ble_eq_true rfl⟩ rfl hl.1 rfl (Nat.le_of_ble_eq_true rfl) dX2_hear_35 ⟨Nat.le_of_ble_eq_true rfl, Nat.le_of_ble_eq_true rfl⟩) hS (fun H locs hW hS => ?_)
    refine lv_aload_n hx hb dX2_hear_38 rfl (lv_at hl 1 rfl) ?_
    refine get3 C0 hK hW 0 (al0 h 3 (by decide)) 0 (by decide) wFL_X2_9 rfl rfl dX2_hear_39 ?_
    refine lv_iload hx hb dX2_hear_42 (lv_at hl 0 rfl) ?_
    refine lv_iconst (v := 1) hx hb dX2_hear_44 (by decide) ?_
    refine lv_iadd hx hb dX2_hear_45 ?_
    refine lv_iload_n hx hb dX2_hear_46 rfl (lv_at hl 3 rfl) ?_
    obtain ⟨z3, hz3, hF⟩ := bnd hF
    refine inV (runN (host := "BirdParlour") C0 hlo hK hZ hW hS (kX4_put l lo g h _ 4 0 ((((sI σ 3 0 2 ((σ.1 3 0 2) + 1)).1 3 0 1) * 4) + 1) a2 (al0 h 4 (by decide)) (by decide) _ hz3) wCO_X4_put (by decide +kernel) wST_X4_put wIN_X4 hdsX4_put ⟨Nat.le_of_ble_eq_true rfl, Nat.le_of_ble_eq_true rfl⟩ rfl hl.1 rfl (Nat.le_of_ble_eq_true rfl) dX2_hear_47 ⟨Nat.le_of_ble_eq_true rfl, Nat.le_of_ble_eq_true rfl⟩) hS (fun H locs hW hS => ?_)
    refine lv_aload_n hx hb dX2_hear_50 rfl (lv_at hl 1 rfl) ?_
    refine get3 C0 hK hW 0 (al0 h 3 (by decide)) 0 (by decide) wFL_X2_9 rfl rfl dX2_hear_51 ?_
    refine lv_iload hx hb dX2_hear_54 (lv_at hl 0 rfl) ?_
    refine lv_iconst (v := 2) hx hb dX2_hear_56 (by decide) ?_
    refine lv_iadd hx hb dX2_hear_57 ?_
    refine lv_iload_n hx hb dX2_hear_58 rfl (lv_at hl 4 rfl) ?_
    obtain ⟨z4, hz4, hF⟩ := bnd hF
    refine inV (runN (host := "BirdParlour") C0 hlo hK hZ hW hS (kX4_put l lo g h _ 4 0 ((((sI σ 3 0 2 ((σ.1 3 0 2) + 1)).1 3 0 1) * 4) + 2) a3 (al0 h 4 (by decide)) (by decide) _ hz4) wCO_X4_put (by decide +kernel) wST_X4_put wIN_X4 hdsX4_put ⟨Nat.le_of_ble_eq_true rfl, Nat.le_of_ble_eq_true rfl⟩ rfl hl.1 rfl (Nat.le_of_ble_eq_true rfl) dX2_hear_59 ⟨Nat.le_of_ble_eq_true rfl, Nat.le_of_ble_eq_true rfl⟩) hS (fun H locs hW hS => ?_)
    refine lv_aload_n hx hb dX2_hear_62 rfl (lv_at hl 1 rfl) ?_
    refine get3 C0 hK hW 0 (al0 h 3 (by decide)) 0 (by decide) wFL_X2_9 rfl rfl dX2_hear_63 ?_
    refine lv_iload hx hb dX2_hear_66 (lv_at hl 0 rfl) ?_
    refine lv_iconst (v := 3) hx hb dX2_hear_68 (by decide) ?_
    refine lv_iadd hx hb dX2_hear_69 ?_
    refine lv_iload hx hb dX2_hear_70 (lv_at hl 5 rfl) ?_
    obtain ⟨z5, hz5, hF⟩ := bnd hF
    refine inV (runN (host := "BirdParlour") C0 hlo hK hZ hW hS (kX4_put l lo g h _ 4 0 ((((sI σ 3 0 2 ((σ.1 3 0 2) + 1)).1 3 0 1) * 4) + 3) a4 (al0 h 4 (by decide)) (by decide) _ hz5) wCO_X4_put (by decide +kernel) wST_X4_put wIN_X4 hdsX4_put ⟨Nat.le_of_ble_eq_true rfl, Nat.le_of_ble_eq_true rfl⟩ rfl hl.1 rfl (Nat.le_of_ble_eq_true rfl) dX2_hear_72 ⟨Nat.le_of_ble_eq_true rfl, Nat.le_of_ble_eq_true rfl⟩) hS (fun H locs hW hS => ?_)
    refine lv_aload_n hx hb dX2_hear_75 rfl (lv_at hl 1 rfl) ?_
    refine lv_dup hx hb dX2_hear_76 rfl ?_
    refine get3 C0 hK hW 0 (al0 h 3 (by decide)) 1 (by decide) wFL_X2_15 rfl rfl dX2_hear_77 ?_
    refine lv_iconst (v := 1) hx hb dX2_hear_80 (by decide) ?_
    refine lv_iadd hx hb dX2_hear_81 ?_
    refine put3_1 C0 hK hW hS 0 (al0 h 3 (by decide)) wFL_X2_15 dX2_hear_82 (fun H locs hW hS => ?_)
    cases hF
    exact retV C0 hr hlk hW hS dX2_hear_85
theorem hdX2_told : yX2_told.cls = RX2 ∧ yX2_told.cls ≠ "java/lang/invoke/MethodHandle" ∧ yX2_told.cls ≠ "java/lang/invoke/VarHandle" ∧ (parseMethodDescriptor yX2_told.desc).map (fun d => d.parameters.length) = some 2 := by decide +kernel
def FX2_told (ns nb : Nat) (σ : Sg) (a1 : Int32) (a2 : Int32) : Option (Int32 × Sg) :=
  (FX4_at ns nb σ 4 0 ((a1 * 4) + a2)).bind fun z1 => some (z1.1, z1.2)
set_option maxHeartbeats 4000000 in
set_option maxRecDepth 100000 in
theorem kX2_told (l : Launch) (lo : Nat) (g : Gx) (h : Sh) (σ : Sg) (a1 : Int32) (a2 : Int32)  (r : Int32) (σ1 : Sg) (hF : FX2_told h.1 h.2.1 σ a1 a2 = some (r, σ1)) : MI l yX2_told (ws_ yX2_told cX2_told 3 (some .int)) 1 21 0 0 lo g h [.ref (h.2.2 3 0), .int a1, .int a2] σ r σ1 := by
  refine ofB (own := RX2) (by decide +kernel) rfl (fun p e s m below meth c C0 hr hlk hlo hK hZ hW hS ls hl => ?_) (Nat.le_of_ble_eq_true rfl)
  have hx := C0.1
  have hb := C0.2.1
  have hl : lv_has ls 3 [(0, .ref (h.2.2 3 0)), (1, .int a1), (2, .int a2)] := hl
  unfold FX2_told at hF
  refine lv_aload_n hx hb dX2_told_0 rfl (lv_at hl 0 rfl) ?_
  refine get3 C0 hK hW 0 (al0 h 3 (by decide)) 0 (by decide) wFL_X2_9 rfl rfl dX2_told_1 ?_
  refine lv_iload_n hx hb dX2_told_4 rfl (lv_at hl 1 rfl) ?_
  refine lv_iconst (v := 4) hx hb dX2_told_5 (by decide) ?_
  refine lv_imul hx hb dX2_told_6 ?_
  refine lv_iload_n hx hb dX2_told_7 rfl (lv_at hl 2 rfl) ?_
  refine lv_iadd hx hb dX2_told_8 ?_
  obtain ⟨z1, hz1, hF⟩ := bnd hF
  refine inI (runN (host := "BirdParlour") C0 hlo hK hZ hW hS (kX4_at l lo g h _ 4 0 ((a1 * 4) + a2) (al0 h 4 (by decide)) (by decide) _ _ hz1) wCO_X4_at (by decide +kernel) wST_X4_at wIN_X4 hdsX4_at ⟨Nat.le_of_ble_eq_true rfl, Nat.le_of_ble_eq_true rfl⟩ rfl hl.1 rfl (Nat.le_of_ble_eq_true rfl) dX2_told_9 ⟨Nat.le_of_ble_eq_true rfl, Nat.le_of_ble_eq_true rfl⟩) hS (fun H locs hW hS => ?_)
  cases hF
  exact retI C0 hr hlk hW hS dX2_told_12
theorem hdX2_clearAll : yX2_clearAll.cls = RX2 ∧ yX2_clearAll.cls ≠ "java/lang/invoke/MethodHandle" ∧ yX2_clearAll.cls ≠ "java/lang/invoke/VarHandle" ∧ (parseMethodDescriptor yX2_clearAll.desc).map (fun d => d.parameters.length) = some 0 := by decide +kernel
def FX2_clearAll (ns nb : Nat) (σ : Sg)  : Option Sg :=
  some (sI (sI σ 3 0 1 0) 3 0 2 0)
set_option maxHeartbeats 4000000 in
set_option maxRecDepth 100000 in
theorem kX2_clearAll (l : Launch) (lo : Nat) (g : Gx) (h : Sh) (σ : Sg)   (σ1 : Sg) (hF : FX2_clearAll h.1 h.2.1 σ  = some σ1) : MV l yX2_clearAll (ws_ yX2_clearAll cX2_clearAll 1 none) 0 0 0 0 lo g h [.ref (h.2.2 3 0)] σ σ1 := by
  refine ofB (own := RX2) (by decide +kernel) rfl (fun p e s m below meth c C0 hr hlk hlo hK hZ hW hS ls hl => ?_) (Nat.le_of_ble_eq_true rfl)
  have hx := C0.1
  have hb := C0.2.1
  have hl : lv_has ls 1 [(0, .ref (h.2.2 3 0))] := hl
  unfold FX2_clearAll at hF
  refine lv_aload_n hx hb dX2_clearAll_0 rfl (lv_at hl 0 rfl) ?_
  refine lv_iconst (v := 0) hx hb dX2_clearAll_1 (by decide) ?_
  refine put3_1 C0 hK hW hS 0 (al0 h 3 (by decide)) wFL_X2_15 dX2_clearAll_2 (fun H locs hW hS => ?_)
  refine lv_aload_n hx hb dX2_clearAll_5 rfl (lv_at hl 0 rfl) ?_
  refine lv_iconst (v := 0) hx hb dX2_clearAll_6 (by decide) ?_
  refine put3_2 C0 hK hW hS 0 (al0 h 3 (by decide)) wFL_X2_22 dX2_clearAll_7 (fun H locs hW hS => ?_)
  cases hF
  exact retV C0 hr hlk hW hS dX2_clearAll_10
end
section
theorem hdX1_hasPoint : yX1_hasPoint.cls = RX1 ∧ yX1_hasPoint.cls ≠ "java/lang/invoke/MethodHandle" ∧ yX1_hasPoint.cls ≠ "java/lang/invoke/VarHandle" ∧ (parseMethodDescriptor yX1_hasPoint.desc).map (fun d => d.parameters.length) = some 1 := by decide +kernel
def FX1_hasPoint (ns nb : Nat) (σ : Sg) (i0 : Nat) (a1 : Int32) : Option (Int32 × Sg) :=
  (FX4_at ns nb σ 11 i0 a1).bind fun z1 => if z1.1 = 1 then (some (1, z1.2)) else (some (0, z1.2))
set_option maxHeartbeats 4000000 in
set_option maxRecDepth 100000 in
theorem kX1_hasPoint (l : Launch) (lo : Nat) (g : Gx) (h : Sh) (σ : Sg) (i0 : Nat) (a1 : Int32) (hi0 : i0 < 3 * h.2.1) (r : Int32) (σ1 : Sg) (hF : FX1_hasPoint h.1 h.2.1 σ i0 a1 = some (r, σ1)) : MI l yX1_hasPoint (ws_ yX1_hasPoint cX1_hasPoint 2 (some .boolean)) 1 21 0 0 lo g h [.ref (h.2.2 10 i0), .int a1] σ r σ1 := by
  refine ofB (own := RX1) (by decide +kernel) rfl (fun p e s m below meth c C0 hr hlk hlo hK hZ hW hS ls hl => ?_) (Nat.le_of_ble_eq_true rfl)
  have hx := C0.1
  have hb := C0.2.1
  have hl : lv_has ls 2 [(0, .ref (h.2.2 10 i0)), (1, .int a1)] := hl
  unfold FX1_hasPoint at hF
  refine lv_aload_n hx hb dX1_hasPoint_0 rfl (lv_at hl 0 rfl) ?_
  refine get10 C0 hK hW i0 (al10 10 hi0 (by decide)) 0 (by decide) wFL_X1_9 rfl rfl dX1_hasPoint_1 ?_
  refine lv_iload_n hx hb dX1_hasPoint_4 rfl (lv_at hl 1 rfl) ?_
  obtain ⟨z1, hz1, hF⟩ := bnd hF
  refine inI (runN (host := "BirdParlour") C0 hlo hK hZ hW hS (kX4_at l lo g h _ 11 i0 a1 (al10 11 hi0 (by decide)) (by decide) _ _ hz1) wCO_X4_at (by decide +kernel) wST_X4_at wIN_X4 hdsX4_at ⟨Nat.le_of_ble_eq_true rfl, Nat.le_of_ble_eq_true rfl⟩ rfl hl.1 rfl (Nat.le_of_ble_eq_true rfl) dX1_hasPoint_5 ⟨Nat.le_of_ble_eq_true rfl, Nat.le_of_ble_eq_true rfl⟩) hS (fun H locs hW hS => ?_)
  refine lv_iconst (v := 1) hx hb dX1_hasPoint_8 (by decide) ?_
  refine lv_icmp_ne (tgt := 16) hx hb dX1_hasPoint_9 (by decide) (fun c2 => ?_) (fun c2 => ?_)
  · rw [if_neg c2] at hF
    refine lv_iconst (v := 0) hx hb dX1_hasPoint_16 (by decide) ?_
    cases hF
    exact retZ C0 hr hlk (Or.inl rfl) hW hS dX1_hasPoint_17
  · rw [if_pos c2] at hF
    refine lv_iconst (v := 1) hx hb dX1_hasPoint_12 (by decide) ?_
    refine lv_goto (tgt := 17) hx hb dX1_hasPoint_13 (by decide) ?_
    cases hF
    exact retZ C0 hr hlk (Or.inr rfl) hW hS dX1_hasPoint_17
theorem hdX1_drawBehind : yX1_drawBehind.cls = RX1 ∧ yX1_drawBehind.cls ≠ "java/lang/invoke/MethodHandle" ∧ yX1_drawBehind.cls ≠ "java/lang/invoke/VarHandle" ∧ (parseMethodDescriptor yX1_drawBehind.desc).map (fun d => d.parameters.length) = some 2 := by decide +kernel
def LX1_drawBehind_2 (ns nb : Nat) (j0 : Nat) (v1 : Int32) (v2 : Int32) : Nat → Int32 → Sg → Option (Int32 × Sg)
  | 0, _, _ => none
  | n + 1, v3, σ => if v2 ≤ v3 then (some (v3, σ)) else ((FX4_remainder ns nb σ (v1 + v3) v2).bind fun z2 => (FX1_hasPoint ns nb z2.2 j0 z2.1).bind fun z3 => if z3.1 = 0 then (LX1_drawBehind_2 ns nb j0 v1 v2 n (v3 + 1) z3.2) else (some (v3, z3.2)))
def LX1_drawBehind_59 (ns nb : Nat) (j0 : Nat) (v1 : Int32) (v2 : Int32) (v3 : Int32) (v4 : Int32) (v5 : Int32) : Nat → Int32 → Sg → Option (Sg)
  | 0, _, _ => none
  | n + 1, v6, σ => if v3 ≤ v6 then (some (σ)) else ((FX4_remainder ns nb σ (v1 + v6) v2).bind fun z10 => (FJ9_floorDiv_7cf53 ns nb z10.2 (v5 * v6) v3).bind fun z11 => (FX4_put ns nb z11.2 12 j0 z10.1 (v4 + z11.1)).bind fun z12 => LX1_drawBehind_59 ns nb j0 v1 v2 v3 v4 v5 n (v6 + 1) z12)
def FX1_drawBehind (ns nb : Nat) (σ : Sg) (i0 : Nat) (a1 : Int32) (a2 : Int32) : Option Sg :=
  (LX1_drawBehind_2 ns nb i0 a1 a2 4100 1 σ).bind fun z5 => (FX4_at ns nb z5.2 12 i0 a1).bind fun z6 => (FX4_remainder ns nb z6.2 (a1 + z5.1) a2).bind fun z7 => (FX4_at ns nb z7.2 12 i0 z7.1).bind fun z8 => (LX1_drawBehind_59 ns nb i0 a1 a2 z5.1 z6.1 (z8.1 - z6.1) 4100 1 z8.2).bind fun z13 => some z13
set_option maxHeartbeats 4000000 in
set_option maxRecDepth 100000 in
theorem lX1_drawBehind_2 {p : Program} {l : Launch} {e : Env} {s : State} {m : MethodId} {args : Array Value} {below : List Frame} {meth : Method} {c : Code} {Q : State → Prop} {lo : Nat} {g : Gx} {h : Sh} (C0 : CallFix p m c cX1_drawBehind 7 s args wB RX1) (hlo : lo ≤ s.heap.size) (hK : KW g s) (hZ : ZW lo s s.heap) (j0 : Nat) (v1 : Int32) (v2 : Int32) (hj0 : j0 < 3 * h.2.1) : ∀ (n : Nat) (v3 : Int32) (σ : Sg) (z : (Int32 × Sg)) (hF : LX1_drawBehind_2 h.1 h.2.1 j0 v1 v2 n v3 σ = some z) (H : Heap) (locs : List Loc) (ls : Array Slot) (hW : FW g h (Ax lo) σ H) (hS : va_S (Ax lo) s.heap H locs) (hl : lv_has ls 7 [(0, .ref (h.2.2 10 j0)), (1, .int v1), (2, .int v2), (3, .int v3)]) (kk : ∀ (H : Heap) (locs : List Loc) (ls : Array Slot), FW g h (Ax lo) z.2 H → va_S (Ax lo) s.heap H locs → lv_has ls 7 [(0, .ref (h.2.2 10 j0)), (1, .int v1), (2, .int v2), (3, .int z.1)] → W p l e { frames := 2, cells := 0, slots := 0, locals := 42 } s m args below meth c H locs 0 0 Q (F0 m 27 ls [])), W p l e { frames := 2, cells := 0, slots := 0, locals := 42 } s m args below meth c H locs 0 0 Q (F0 m 2 ls []) := by
  have hx := C0.1
  have hb := C0.2.1
  intro n
  induction n with
  | zero =>
    intro v3 σ z hF
    rw [LX1_drawBehind_2] at hF
    cases hF
  | succ n ih =>
    intro v3 σ z hF H locs ls hW hS hl kk
    rw [LX1_drawBehind_2] at hF
    refine lv_iload_n hx hb dX1_drawBehind_2 rfl (lv_at hl 3 rfl) ?_
    refine lv_iload_n hx hb dX1_drawBehind_3 rfl (lv_at hl 2 rfl) ?_
    refine lv_icmp_ge (tgt := 27) hx hb dX1_drawBehind_4 (by decide) (fun c1 => ?_) (fun c1 => ?_)
    · rw [if_pos c1] at hF
      cases hF
      exact kk _ _ _ hW hS (lv_sub hl [0, 1, 2, 3] rfl)
    · rw [if_neg c1] at hF
      refine lv_aload_n hx hb dX1_drawBehind_7 rfl (lv_at hl 0 rfl) ?_
      refine lv_iload_n hx hb dX1_drawBehind_8 rfl (lv_at hl 1 rfl) ?_
      refine lv_iload_n hx hb dX1_drawBehind_9 rfl (lv_at hl 3 rfl) ?_
      refine lv_iadd hx hb dX1_drawBehind_10 ?_
      refine lv_iload_n hx hb dX1_drawBehind_11 rfl (lv_at hl 2 rfl) ?_
      obtain ⟨z2, hz2, hF⟩ := bnd hF
      refine inI (runN (host := "BirdParlour") C0 hlo hK hZ hW hS (kX4_remainder l lo g h _ (v1 + v3) v2  _ _ hz2) wCO_X4_remainder (by decide +kernel) wST_X4_remainder wIN_X4 hdsX4_remainder ⟨Nat.le_of_ble_eq_true rfl, Nat.le_of_ble_eq_true rfl⟩ rfl hl.1 rfl (Nat.le_of_ble_eq_true rfl) dX1_drawBehind_12 ⟨Nat.le_of_ble_eq_true rfl, Nat.le_of_ble_eq_true rfl⟩) hS (fun H locs hW hS => ?_)
      obtain ⟨z3, hz3, hF⟩ := bnd hF
      refine inI (runV C0 hlo hK hZ hW hS (kX1_hasPoint l lo g h _ j0 z2.1 hj0 _ _ hz3) wCO_X1_hasPoint wML_X1_22 wIM_X1_hasPoint wSE_X1_X1_hasPoint wIN_X1 hdX1_hasPoint ⟨Nat.le_of_ble_eq_true rfl, Nat.le_of_ble_eq_true rfl⟩ (recvK hK hW (al10 10 hj0 (by decide)) (ct10 j0) rfl) rfl hl.1 rfl (Nat.le_of_ble_eq_true rfl) dX1_drawBehind_15 ⟨Nat.le_of_ble_eq_true rfl, Nat.le_of_ble_eq_true rfl⟩) hS (fun H locs hW hS => ?_)
      refine lv_if_ne (tgt := 27) hx hb dX1_drawBehind_18 (by decide) (fun c4 => ?_) (fun c4 => ?_)
      · rw [if_neg c4] at hF
        cases hF
        exact kk _ _ _ hW hS (lv_sub hl [0, 1, 2, 3] rfl)
      · rw [if_pos c4] at hF
        refine lv_iinc (v := v3 + 1) (lv' := [(3, .int (v3 + 1)), (0, .ref (h.2.2 10 j0)), (1, .int v1), (2, .int v2)]) hx hb dX1_drawBehind_21 hl (k := 3) rfl rfl (by decide) rfl (fun ls hl => ?_)
        refine lv_goto (tgt := 2) hx hb dX1_drawBehind_24 (by decide) ?_
        exact ih (v3 + 1) z3.2 z hF _ _ _ hW hS (lv_sub hl [1, 2, 3, 0] rfl) kk
set_option maxHeartbeats 4000000 in
set_option maxRecDepth 100000 in
theorem lX1_drawBehind_59 {p : Program} {l : Launch} {e : Env} {s : State} {m : MethodId} {args : Array Value} {below : List Frame} {meth : Method} {c : Code} {Q : State → Prop} {lo : Nat} {g : Gx} {h : Sh} (C0 : CallFix p m c cX1_drawBehind 7 s args wB RX1) (hlo : lo ≤ s.heap.size) (hK : KW g s) (hZ : ZW lo s s.heap) (j0 : Nat) (v1 : Int32) (v2 : Int32) (v3 : Int32) (v4 : Int32) (v5 : Int32) (hj0 : j0 < 3 * h.2.1) : ∀ (n : Nat) (v6 : Int32) (σ : Sg) (z : (Sg)) (hF : LX1_drawBehind_59 h.1 h.2.1 j0 v1 v2 v3 v4 v5 n v6 σ = some z) (H : Heap) (locs : List Loc) (ls : Array Slot) (hW : FW g h (Ax lo) σ H) (hS : va_S (Ax lo) s.heap H locs) (hl : lv_has ls 7 [(0, .ref (h.2.2 10 j0)), (1, .int v1), (2, .int v2), (3, .int v3), (4, .int v4), (5, .int v5), (6, .int v6)]) (kk : ∀ (H : Heap) (locs : List Loc) (ls : Array Slot), FW g h (Ax lo) z H → va_S (Ax lo) s.heap H locs → lv_has ls 7 [] → W p l e { frames := 2, cells := 0, slots := 0, locals := 42 } s m args below meth c H locs 0 0 Q (F0 m 98 ls [])), W p l e { frames := 2, cells := 0, slots := 0, locals := 42 } s m args below meth c H locs 0 0 Q (F0 m 59 ls []) := by
  have hx := C0.1
  have hb := C0.2.1
  intro n
  induction n with
  | zero =>
    intro v6 σ z hF
    rw [LX1_drawBehind_59] at hF
    cases hF
  | succ n ih =>
    intro v6 σ z hF H locs ls hW hS hl kk
    rw [LX1_drawBehind_59] at hF
    refine lv_iload hx hb dX1_drawBehind_59 (lv_at hl 6 rfl) ?_
    refine lv_iload_n hx hb dX1_drawBehind_61 rfl (lv_at hl 3 rfl) ?_
    refine lv_icmp_ge (tgt := 98) hx hb dX1_drawBehind_62 (by decide) (fun c9 => ?_) (fun c9 => ?_)
    · rw [if_pos c9] at hF
      cases hF
      exact kk _ _ _ hW hS (lv_sub hl [] rfl)
    · rw [if_neg c9] at hF
      refine lv_aload_n hx hb dX1_drawBehind_65 rfl (lv_at hl 0 rfl) ?_
      refine get10 C0 hK hW j0 (al10 10 hj0 (by decide)) 1 (by decide) wFL_X1_15 rfl rfl dX1_drawBehind_66 ?_
      refine lv_iload_n hx hb dX1_drawBehind_69 rfl (lv_at hl 1 rfl) ?_
      refine lv_iload hx hb dX1_drawBehind_70 (lv_at hl 6 rfl) ?_
      refine lv_iadd hx hb dX1_drawBehind_72 ?_
      refine lv_iload_n hx hb dX1_drawBehind_73 rfl (lv_at hl 2 rfl) ?_
      obtain ⟨z10, hz10, hF⟩ := bnd hF
      refine inI (runN (host := "BirdParlour") C0 hlo hK hZ hW hS (kX4_remainder l lo g h _ (v1 + v6) v2  _ _ hz10) wCO_X4_remainder (by decide +kernel) wST_X4_remainder wIN_X4 hdsX4_remainder ⟨Nat.le_of_ble_eq_true rfl, Nat.le_of_ble_eq_true rfl⟩ rfl hl.1 rfl (Nat.le_of_ble_eq_true rfl) dX1_drawBehind_74 ⟨Nat.le_of_ble_eq_true rfl, Nat.le_of_ble_eq_true rfl⟩) hS (fun H locs hW hS => ?_)
      refine lv_iload hx hb dX1_drawBehind_77 (lv_at hl 4 rfl) ?_
      refine lv_iload hx hb dX1_drawBehind_79 (lv_at hl 5 rfl) ?_
      refine lv_iload hx hb dX1_drawBehind_81 (lv_at hl 6 rfl) ?_
      refine lv_imul hx hb dX1_drawBehind_83 ?_
      refine lv_iload_n hx hb dX1_drawBehind_84 rfl (lv_at hl 3 rfl) ?_
      obtain ⟨z11, hz11, hF⟩ := bnd hF
      refine inI (runS C0 hlo hK hZ hW hS (kJ9_floorDiv_7cf53 l lo g h _ (v5 * v6) v3  _ _ hz11) wCO_J9_floorDiv_7cf53 wML_X1_46 wST_J9_floorDiv_7cf53 wIN_J9 hdsJ9_floorDiv_7cf53 ⟨Nat.le_of_ble_eq_true rfl, Nat.le_of_ble_eq_true rfl⟩ rfl hl.1 rfl (Nat.le_of_ble_eq_true rfl) dX1_drawBehind_85 ⟨Nat.le_of_ble_eq_true rfl, Nat.le_of_ble_eq_true rfl⟩) hS (fun H locs hW hS => ?_)
      refine lv_iadd hx hb dX1_drawBehind_88 ?_
      obtain ⟨z12, hz12, hF⟩ := bnd hF
      refine inV (runN (host := "BirdParlour") C0 hlo hK hZ hW hS (kX4_put l lo g h _ 12 j0 z10.1 (v4 + z11.1) (al10 12 hj0 (by decide)) (by decide) _ hz12) wCO_X4_put (by decide +kernel) wST_X4_put wIN_X4 hdsX4_put ⟨Nat.le_of_ble_eq_true rfl, Nat.le_of_ble_eq_true rfl⟩ rfl hl.1 rfl (Nat.le_of_ble_eq_true rfl) dX1_drawBehind_89 ⟨Nat.le_of_ble_eq_true rfl, Nat.le_of_ble_eq_true rfl⟩) hS (fun H locs hW hS => ?_)
      refine lv_iinc (v := v6 + 1) (lv' := [(6, .int (v6 + 1)), (0, .ref (h.2.2 10 j0)), (1, .int v1), (2, .int v2), (3, .int v3), (4, .int v4), (5, .int v5)]) hx hb dX1_drawBehind_92 hl (k := 6) rfl rfl (by decide) rfl (fun ls hl => ?_)
      refine lv_goto (tgt := 59) hx hb dX1_drawBehind_95 (by decide) ?_
      exact ih (v6 + 1) z12 z hF _ _ _ hW hS (lv_sub hl [1, 2, 3, 4, 5, 6, 0] rfl) kk
set_option maxHeartbeats 4000000 in
set_option maxRecDepth 100000 in
theorem kX1_drawBehind (l : Launch) (lo : Nat) (g : Gx) (h : Sh) (σ : Sg) (i0 : Nat) (a1 : Int32) (a2 : Int32) (hi0 : i0 < 3 * h.2.1) (σ1 : Sg) (hF : FX1_drawBehind h.1 h.2.1 σ i0 a1 a2 = some σ1) : MV l yX1_drawBehind (ws_ yX1_drawBehind cX1_drawBehind 7 none) 2 42 0 0 lo g h [.ref (h.2.2 10 i0), .int a1, .int a2] σ σ1 := by
  refine ofB (own := RX1) (by decide +kernel) rfl (fun p e s m below meth c C0 hr hlk hlo hK hZ hW hS ls hl => ?_) (Nat.le_of_ble_eq_true rfl)
  have hx := C0.1
  have hb := C0.2.1
  have hl : lv_has ls 7 [(0, .ref (h.2.2 10 i0)), (1, .int a1), (2, .int a2)] := hl
  unfold FX1_drawBehind at hF
  refine lv_iconst (v := 1) hx hb dX1_drawBehind_0 (by decide) ?_
  refine lv_istore_n (lv' := [(3, .int 1), (0, .ref (h.2.2 10 i0)), (1, .int a1), (2, .int a2)]) hx hb dX1_drawBehind_1 rfl hl (by decide) rfl (fun ls hl => ?_)
  obtain ⟨z5, hz5, hF⟩ := bnd hF
  refine lX1_drawBehind_2 C0 hlo hK hZ i0 a1 a2 hi0 _ 1 _ z5 hz5 _ _ _ hW hS (lv_sub hl [1, 2, 3, 0] rfl) (fun H locs ls hW hS hl => ?_)
  refine lv_aload_n hx hb dX1_drawBehind_27 rfl (lv_at hl 0 rfl) ?_
  refine get10 C0 hK hW i0 (al10 10 hi0 (by decide)) 1 (by decide) wFL_X1_15 rfl rfl dX1_drawBehind_28 ?_
  refine lv_iload_n hx hb dX1_drawBehind_31 rfl (lv_at hl 1 rfl) ?_
  obtain ⟨z6, hz6, hF⟩ := bnd hF
  refine inI (runN (host := "BirdParlour") C0 hlo hK hZ hW hS (kX4_at l lo g h _ 12 i0 a1 (al10 12 hi0 (by decide)) (by decide) _ _ hz6) wCO_X4_at (by decide +kernel) wST_X4_at wIN_X4 hdsX4_at ⟨Nat.le_of_ble_eq_true rfl, Nat.le_of_ble_eq_true rfl⟩ rfl hl.1 rfl (Nat.le_of_ble_eq_true rfl) dX1_drawBehind_32 ⟨Nat.le_of_ble_eq_true rfl, Nat.le_of_ble_eq_true rfl⟩) hS (fun H locs hW hS => ?_)
  refine lv_istore (lv' := [(4, .int z6.1), (0, .ref (h.2.2 10 i0)), (1, .int a1), (2, .int a2), (3, .int z5.1)]) hx hb dX1_drawBehind_35 hl (by decide) rfl (fun ls hl => ?_)
  refine lv_aload_n hx hb dX1_drawBehind_37 rfl (lv_at hl 1 rfl) ?_
  refine get10 C0 hK hW i0 (al10 10 hi0 (by decide)) 1 (by decide) wFL_X1_15 rfl rfl dX1_drawBehind_38 ?_
  refine lv_iload_n hx hb dX1_drawBehind_41 rfl (lv_at hl 2 rfl) ?_
  refine lv_iload_n hx hb dX1_drawBehind_42 rfl (lv_at hl 4 rfl) ?_
  refine lv_iadd hx hb dX1_drawBehind_43 ?_
  refine lv_iload_n hx hb dX1_drawBehind_44 rfl (lv_at hl 3 rfl) ?_
  obtain ⟨z7, hz7, hF⟩ := bnd hF
  refine inI (runN (host := "BirdParlour") C0 hlo hK hZ hW hS (kX4_remainder l lo g h _ (a1 + z5.1) a2  _ _ hz7) wCO_X4_remainder (by decide +kernel) wST_X4_remainder wIN_X4 hdsX4_remainder ⟨Nat.le_of_ble_eq_true rfl, Nat.le_of_ble_eq_true rfl⟩ rfl hl.1 rfl (Nat.le_of_ble_eq_true rfl) dX1_drawBehind_45 ⟨Nat.le_of_ble_eq_true rfl, Nat.le_of_ble_eq_true rfl⟩) hS (fun H locs hW hS => ?_)
  obtain ⟨z8, hz8, hF⟩ := bnd hF
  refine inI (runN (host := "BirdParlour") C0 hlo hK hZ hW hS (kX4_at l lo g h _ 12 i0 z7.1 (al10 12 hi0 (by decide)) (by decide) _ _ hz8) wCO_X4_at (by decide +kernel) wST_X4_at wIN_X4 hdsX4_at ⟨Nat.le_of_ble_eq_true rfl, Nat.le_of_ble_eq_true rfl⟩ rfl hl.1 rfl (Nat.le_of_ble_eq_true rfl) dX1_drawBehind_48 ⟨Nat.le_of_ble_eq_true rfl, Nat.le_of_ble_eq_true rfl⟩) hS (fun H locs hW hS => ?_)
  refine lv_iload hx hb dX1_drawBehind_51 (lv_at hl 0 rfl) ?_
  refine lv_isub hx hb dX1_drawBehind_53 ?_
  refine lv_istore (lv' := [(5, .int (z8.1 - z6.1)), (4, .int z6.1), (0, .ref (h.2.2 10 i0)), (1, .int a1), (2, .int a2), (3, .int z5.1)]) hx hb dX1_drawBehind_54 hl (by decide) rfl (fun ls hl => ?_)
  refine lv_iconst (v := 1) hx hb dX1_drawBehind_56 (by decide) ?_
  refine lv_istore (lv' := [(6, .int 1), (5, .int (z8.1 - z6.1)), (4, .int z6.1), (0, .ref (h.2.2 10 i0)), (1, .int a1), (2, .int a2), (3, .int z5.1)]) hx hb dX1_drawBehind_57 hl (by decide) rfl (fun ls hl => ?_)
  obtain ⟨z13, hz13, hF⟩ := bnd hF
  refine lX1_drawBehind_59 C0 hlo hK hZ i0 a1 a2 z5.1 z6.1 (z8.1 - z6.1) hi0 _ 1 _ z13 hz13 _ _ _ hW hS (lv_sub hl [3, 4, 5, 6, 2, 1, 0] rfl) (fun H locs ls hW hS hl => ?_)
  cases hF
  exact retV C0 hr hlk hW hS dX1_drawBehind_98
theorem hdX1_draw : yX1_draw.cls = RX1 ∧ yX1_draw.cls ≠ "java/lang/invoke/MethodHandle" ∧ yX1_draw.cls ≠ "java/lang/invoke/VarHandle" ∧ (parseMethodDescriptor yX1_draw.desc).map (fun d => d.parameters.length) = some 1 := by decide +kernel
def LX1_draw_2 (ns nb : Nat) (j0 : Nat) (v1 : Int32) : Nat → Int32 → Sg → Option (Sg)
  | 0, _, _ => none
  | n + 1, v2, σ => if v1 ≤ v2 then (some (σ)) else ((FX1_hasPoint ns nb σ j0 v2).bind fun z2 => if z2.1 = 0 then (if (z2.2.1 10 j0 2) = 0 then ((FX4_put ns nb z2.2 12 j0 v2 0).bind fun z5 => LX1_draw_2 ns nb j0 v1 n (v2 + 1) z5) else (LX1_draw_2 ns nb j0 v1 n (v2 + 1) z2.2)) else ((FX1_drawBehind ns nb z2.2 j0 v2 v1).bind fun z6 => LX1_draw_2 ns nb j0 v1 n (v2 + 1) z6))
def FX1_draw (ns nb : Nat) (σ : Sg) (i0 : Nat) (a1 : Int32) : Option Sg :=
  (LX1_draw_2 ns nb i0 a1 4100 0 σ).bind fun z7 => some z7
set_option maxHeartbeats 4000000 in
set_option maxRecDepth 100000 in
theorem lX1_draw_2 {p : Program} {l : Launch} {e : Env} {s : State} {m : MethodId} {args : Array Value} {below : List Frame} {meth : Method} {c : Code} {Q : State → Prop} {lo : Nat} {g : Gx} {h : Sh} (C0 : CallFix p m c cX1_draw 3 s args wB RX1) (hlo : lo ≤ s.heap.size) (hK : KW g s) (hZ : ZW lo s s.heap) (j0 : Nat) (v1 : Int32) (hj0 : j0 < 3 * h.2.1) : ∀ (n : Nat) (v2 : Int32) (σ : Sg) (z : (Sg)) (hF : LX1_draw_2 h.1 h.2.1 j0 v1 n v2 σ = some z) (H : Heap) (locs : List Loc) (ls : Array Slot) (hW : FW g h (Ax lo) σ H) (hS : va_S (Ax lo) s.heap H locs) (hl : lv_has ls 3 [(0, .ref (h.2.2 10 j0)), (1, .int v1), (2, .int v2)]) (kk : ∀ (H : Heap) (locs : List Loc) (ls : Array Slot), FW g h (Ax lo) z H → va_S (Ax lo) s.heap H locs → lv_has ls 3 [] → W p l e { frames := 3, cells := 0, slots := 0, locals := 68 } s m args below meth c H locs 0 0 Q (F0 m 46 ls [])), W p l e { frames := 3, cells := 0, slots := 0, locals := 68 } s m args below meth c H locs 0 0 Q (F0 m 2 ls []) := by
  have hx := C0.1
  have hb := C0.2.1
  intro n
  induction n with
  | zero =>
    intro v2 σ z hF
    rw [LX1_draw_2] at hF
    cases hF
  | succ n ih =>
    intro v2 σ z hF H locs ls hW hS hl kk
    rw [LX1_draw_2] at hF
    refine lv_iload_n hx hb dX1_draw_2 rfl (lv_at hl 2 rfl) ?_
    refine lv_iload_n hx hb dX1_draw_3 rfl (lv_at hl 1 rfl) ?_
    refine lv_icmp_ge (tgt := 46) hx hb dX1_draw_4 (by decide) (fun c1 => ?_) (fun c1 => ?_)
    · rw [if_pos c1] at hF
      cases hF
      exact kk _ _ _ hW hS (lv_sub hl [] rfl)
    · rw [if_neg c1] at hF
      refine lv_aload_n hx hb dX1_draw_7 rfl (lv_at hl 0 rfl) ?_
      refine lv_iload_n hx hb dX1_draw_8 rfl (lv_at hl 2 rfl) ?_
      obtain ⟨z2, hz2, hF⟩ := bnd hF
      refine inI (runV C0 hlo hK hZ hW hS (kX1_hasPoint l lo g h _ j0 v2 hj0 _ _ hz2) wCO_X1_hasPoint wML_X1_22 wIM_X1_hasPoint wSE_X1_X1_hasPoint wIN_X1 hdX1_hasPoint ⟨Nat.le_of_ble_eq_true rfl, Nat.le_of_ble_eq_true rfl⟩ (recvK hK hW (al10 10 hj0 (by decide)) (ct10 j0) rfl) rfl hl.1 rfl (Nat.le_of_ble_eq_true rfl) dX1_draw_9 ⟨Nat.le_of_ble_eq_true rfl, Nat.le_of_ble_eq_true rfl⟩) hS (fun H locs hW hS => ?_)
      refine lv_if_eq (tgt := 24) hx hb dX1_draw_12 (by decide) (fun c3 => ?_) (fun c3 => ?_)
      · rw [if_pos c3] at hF
        refine lv_aload_n hx hb dX1_draw_24 rfl (lv_at hl 0 rfl) ?_
        refine get10 C0 hK hW j0 (al10 10 hj0 (by decide)) 2 (by decide) wFL_X1_26 rfl rfl dX1_draw_25 ?_
        refine lv_if_ne (tgt := 40) hx hb dX1_draw_28 (by decide) (fun c4 => ?_) (fun c4 => ?_)
        · rw [if_neg c4] at hF
          refine lv_iinc (v := v2 + 1) (lv' := [(2, .int (v2 + 1)), (0, .ref (h.2.2 10 j0)), (1, .int v1)]) hx hb dX1_draw_40 hl (k := 2) rfl rfl (by decide) rfl (fun ls hl => ?_)
          refine lv_goto (tgt := 2) hx hb dX1_draw_43 (by decide) ?_
          exact ih (v2 + 1) z2.2 z hF _ _ _ hW hS (lv_sub hl [1, 2, 0] rfl) kk
        · rw [if_pos c4] at hF
          refine lv_aload_n hx hb dX1_draw_31 rfl (lv_at hl 0 rfl) ?_
          refine get10 C0 hK hW j0 (al10 10 hj0 (by decide)) 1 (by decide) wFL_X1_15 rfl rfl dX1_draw_32 ?_
          refine lv_iload_n hx hb dX1_draw_35 rfl (lv_at hl 2 rfl) ?_
          refine lv_iconst (v := 0) hx hb dX1_draw_36 (by decide) ?_
          obtain ⟨z5, hz5, hF⟩ := bnd hF
          refine inV (runN (host := "BirdParlour") C0 hlo hK hZ hW hS (kX4_put l lo g h _ 12 j0 v2 0 (al10 12 hj0 (by decide)) (by decide) _ hz5) wCO_X4_put (by decide +kernel) wST_X4_put wIN_X4 hdsX4_put ⟨Nat.le_of_ble_eq_true rfl, Nat.le_of_ble_eq_true rfl⟩ rfl hl.1 rfl (Nat.le_of_ble_eq_true rfl) dX1_draw_37 ⟨Nat.le_of_ble_eq_true rfl, Nat.le_of_ble_eq_true rfl⟩) hS (fun H locs hW hS => ?_)
          refine lv_iinc (v := v2 + 1) (lv' := [(2, .int (v2 + 1)), (0, .ref (h.2.2 10 j0)), (1, .int v1)]) hx hb dX1_draw_40 hl (k := 2) rfl rfl (by decide) rfl (fun ls hl => ?_)
          refine lv_goto (tgt := 2) hx hb dX1_draw_43 (by decide) ?_
          exact ih (v2 + 1) z5 z hF _ _ _ hW hS (lv_sub hl [1, 2, 0] rfl) kk
      · rw [if_neg c3] at hF
        refine lv_aload_n hx hb dX1_draw_15 rfl (lv_at hl 0 rfl) ?_
        refine lv_iload_n hx hb dX1_draw_16 rfl (lv_at hl 2 rfl) ?_
        refine lv_iload_n hx hb dX1_draw_17 rfl (lv_at hl 1 rfl) ?_
        obtain ⟨z6, hz6, hF⟩ := bnd hF
        refine inV (runV C0 hlo hK hZ hW hS (kX1_drawBehind l lo g h _ j0 v2 v1 hj0 _ hz6) wCO_X1_drawBehind wML_X1_38 wIM_X1_drawBehind wSE_X1_X1_drawBehind wIN_X1 hdX1_drawBehind ⟨Nat.le_of_ble_eq_true rfl, Nat.le_of_ble_eq_true rfl⟩ (recvK hK hW (al10 10 hj0 (by decide)) (ct10 j0) rfl) rfl hl.1 rfl (Nat.le_of_ble_eq_true rfl) dX1_draw_18 ⟨Nat.le_of_ble_eq_true rfl, Nat.le_of_ble_eq_true rfl⟩) hS (fun H locs hW hS => ?_)
        refine lv_goto (tgt := 40) hx hb dX1_draw_21 (by decide) ?_
        refine lv_iinc (v := v2 + 1) (lv' := [(2, .int (v2 + 1)), (0, .ref (h.2.2 10 j0)), (1, .int v1)]) hx hb dX1_draw_40 hl (k := 2) rfl rfl (by decide) rfl (fun ls hl => ?_)
        refine lv_goto (tgt := 2) hx hb dX1_draw_43 (by decide) ?_
        exact ih (v2 + 1) z6 z hF _ _ _ hW hS (lv_sub hl [1, 2, 0] rfl) kk
set_option maxHeartbeats 4000000 in
set_option maxRecDepth 100000 in
theorem kX1_draw (l : Launch) (lo : Nat) (g : Gx) (h : Sh) (σ : Sg) (i0 : Nat) (a1 : Int32) (hi0 : i0 < 3 * h.2.1) (σ1 : Sg) (hF : FX1_draw h.1 h.2.1 σ i0 a1 = some σ1) : MV l yX1_draw (ws_ yX1_draw cX1_draw 3 none) 3 68 0 0 lo g h [.ref (h.2.2 10 i0), .int a1] σ σ1 := by
  refine ofB (own := RX1) (by decide +kernel) rfl (fun p e s m below meth c C0 hr hlk hlo hK hZ hW hS ls hl => ?_) (Nat.le_of_ble_eq_true rfl)
  have hx := C0.1
  have hb := C0.2.1
  have hl : lv_has ls 3 [(0, .ref (h.2.2 10 i0)), (1, .int a1)] := hl
  unfold FX1_draw at hF
  refine lv_iconst (v := 0) hx hb dX1_draw_0 (by decide) ?_
  refine lv_istore_n (lv' := [(2, .int 0), (0, .ref (h.2.2 10 i0)), (1, .int a1)]) hx hb dX1_draw_1 rfl hl (by decide) rfl (fun ls hl => ?_)
  obtain ⟨z7, hz7, hF⟩ := bnd hF
  refine lX1_draw_2 C0 hlo hK hZ i0 a1 hi0 _ 0 _ z7 hz7 _ _ _ hW hS (lv_sub hl [1, 2, 0] rfl) (fun H locs ls hW hS hl => ?_)
  cases hF
  exact retV C0 hr hlk hW hS dX1_draw_46
theorem hdX1_layPoint : yX1_layPoint.cls = RX1 ∧ yX1_layPoint.cls ≠ "java/lang/invoke/MethodHandle" ∧ yX1_layPoint.cls ≠ "java/lang/invoke/VarHandle" ∧ (parseMethodDescriptor yX1_layPoint.desc).map (fun d => d.parameters.length) = some 3 := by decide +kernel
def FX1_layPoint (ns nb : Nat) (σ : Sg) (i0 : Nat) (a1 : Int32) (a2 : Int32) (a3 : Int32) : Option Sg :=
  (FX1_hasPoint ns nb σ i0 a1).bind fun z1 => if z1.1 = 0 then ((FX4_put ns nb (sI z1.2 10 i0 2 ((z1.2.1 10 i0 2) + 1)) 11 i0 a1 1).bind fun z6 => (FX4_put ns nb z6 12 i0 a1 a2).bind fun z7 => (FX1_draw ns nb z7 i0 a3).bind fun z8 => some z8) else ((FX4_put ns nb z1.2 11 i0 a1 1).bind fun z3 => (FX4_put ns nb z3 12 i0 a1 a2).bind fun z4 => (FX1_draw ns nb z4 i0 a3).bind fun z5 => some z5)
set_option maxHeartbeats 4000000 in
set_option maxRecDepth 100000 in
theorem kX1_layPoint (l : Launch) (lo : Nat) (g : Gx) (h : Sh) (σ : Sg) (i0 : Nat) (a1 : Int32) (a2 : Int32) (a3 : Int32) (hi0 : i0 < 3 * h.2.1) (σ1 : Sg) (hF : FX1_layPoint h.1 h.2.1 σ i0 a1 a2 a3 = some σ1) : MV l yX1_layPoint (ws_ yX1_layPoint cX1_layPoint 4 none) 4 90 0 0 lo g h [.ref (h.2.2 10 i0), .int a1, .int a2, .int a3] σ σ1 := by
  refine ofB (own := RX1) (by decide +kernel) rfl (fun p e s m below meth c C0 hr hlk hlo hK hZ hW hS ls hl => ?_) (Nat.le_of_ble_eq_true rfl)
  have hx := C0.1
  have hb := C0.2.1
  have hl : lv_has ls 4 [(0, .ref (h.2.2 10 i0)), (1, .int a1), (2, .int a2), (3, .int a3)] := hl
  unfold FX1_layPoint at hF
  refine lv_aload_n hx hb dX1_layPoint_0 rfl (lv_at hl 0 rfl) ?_
  refine lv_iload_n hx hb dX1_layPoint_1 rfl (lv_at hl 1 rfl) ?_
  obtain ⟨z1, hz1, hF⟩ := bnd hF
  refine inI (runV C0 hlo hK hZ hW hS (kX1_hasPoint l lo g h _ i0 a1 hi0 _ _ hz1) wCO_X1_hasPoint wML_X1_22 wIM_X1_hasPoint wSE_X1_X1_hasPoint wIN_X1 hdX1_hasPoint ⟨Nat.le_of_ble_eq_true rfl, Nat.le_of_ble_eq_true rfl⟩ (recvK hK hW (al10 10 hi0 (by decide)) (ct10 i0) rfl) rfl hl.1 rfl (Nat.le_of_ble_eq_true rfl) dX1_layPoint_2 ⟨Nat.le_of_ble_eq_true rfl, Nat.le_of_ble_eq_true rfl⟩) hS (fun H locs hW hS => ?_)
  refine lv_if_ne (tgt := 18) hx hb dX1_layPoint_5 (by decide) (fun c2 => ?_) (fun c2 => ?_)
  · rw [if_neg c2] at hF
    refine lv_aload_n hx hb dX1_layPoint_18 rfl (lv_at hl 0 rfl) ?_
    refine get10 C0 hK hW i0 (al10 10 hi0 (by decide)) 0 (by decide) wFL_X1_9 rfl rfl dX1_layPoint_19 ?_
    refine lv_iload_n hx hb dX1_layPoint_22 rfl (lv_at hl 1 rfl) ?_
    refine lv_iconst (v := 1) hx hb dX1_layPoint_23 (by decide) ?_
    obtain ⟨z3, hz3, hF⟩ := bnd hF
    refine inV (runN (host := "BirdParlour") C0 hlo hK hZ hW hS (kX4_put l lo g h _ 11 i0 a1 1 (al10 11 hi0 (by decide)) (by decide) _ hz3) wCO_X4_put (by decide +kernel) wST_X4_put wIN_X4 hdsX4_put ⟨Nat.le_of_ble_eq_true rfl, Nat.le_of_ble_eq_true rfl⟩ rfl hl.1 rfl (Nat.le_of_ble_eq_true rfl) dX1_layPoint_24 ⟨Nat.le_of_ble_eq_true rfl, Nat.le_of_ble_eq_true rfl⟩) hS (fun H locs hW hS => ?_)
    refine lv_aload_n hx hb dX1_layPoint_27 rfl (lv_at hl 0 rfl) ?_
    refine get10 C0 hK hW i0 (al10 10 hi0 (by decide)) 1 (by decide) wFL_X1_15 rfl rfl dX1_layPoint_28 ?_
    refine lv_iload_n hx hb dX1_layPoint_31 rfl (lv_at hl 1 rfl) ?_
    refine lv_iload_n hx hb dX1_layPoint_32 rfl (lv_at hl 2 rfl) ?_
    obtain ⟨z4, hz4, hF⟩ := bnd hF
    refine inV (runN (host := "BirdParlour") C0 hlo hK hZ hW hS (kX4_put l lo g h _ 12 i0 a1 a2 (al10 12 hi0 (by decide)) (by decide) _ hz4) wCO_X4_put (by decide +kernel) wST_X4_put wIN_X4 hdsX4_put ⟨Nat.le_of_ble_eq_true rfl, Nat.le_of_ble_eq_true rfl⟩ rfl hl.1 rfl (Nat.le_of_ble_eq_true rfl) dX1_layPoint_33 ⟨Nat.le_of_ble_eq_true rfl, Nat.le_of_ble_eq_true rfl⟩) hS (fun H locs hW hS => ?_)
    refine lv_aload_n hx hb dX1_layPoint_36 rfl (lv_at hl 0 rfl) ?_
    refine lv_iload_n hx hb dX1_layPoint_37 rfl (lv_at hl 3 rfl) ?_
    obtain ⟨z5, hz5, hF⟩ := bnd hF
    refine inV (runV C0 hlo hK hZ hW hS (kX1_draw l lo g h _ i0 a3 hi0 _ hz5) wCO_X1_draw wML_X1_34 wIM_X1_draw wSE_X1_X1_draw wIN_X1 hdX1_draw ⟨Nat.le_of_ble_eq_true rfl, Nat.le_of_ble_eq_true rfl⟩ (recvK hK hW (al10 10 hi0 (by decide)) (ct10 i0) rfl) rfl hl.1 rfl (Nat.le_of_ble_eq_true rfl) dX1_layPoint_38 ⟨Nat.le_of_ble_eq_true rfl, Nat.le_of_ble_eq_true rfl⟩) hS (fun H locs hW hS => ?_)
    cases hF
    exact retV C0 hr hlk hW hS dX1_layPoint_41
  · rw [if_pos c2] at hF
    refine lv_aload_n hx hb dX1_layPoint_8 rfl (lv_at hl 0 rfl) ?_
    refine lv_dup hx hb dX1_layPoint_9 rfl ?_
    refine get10 C0 hK hW i0 (al10 10 hi0 (by decide)) 2 (by decide) wFL_X1_26 rfl rfl dX1_layPoint_10 ?_
    refine lv_iconst (v := 1) hx hb dX1_layPoint_13 (by decide) ?_
    refine lv_iadd hx hb dX1_layPoint_14 ?_
    refine put10_2 C0 hK hW hS i0 (al10 10 hi0 (by decide)) wFL_X1_26 dX1_layPoint_15 (fun H locs hW hS => ?_)
    refine lv_aload_n hx hb dX1_layPoint_18 rfl (lv_at hl 0 rfl) ?_
    refine get10 C0 hK hW i0 (al10 10 hi0 (by decide)) 0 (by decide) wFL_X1_9 rfl rfl dX1_layPoint_19 ?_
    refine lv_iload_n hx hb dX1_layPoint_22 rfl (lv_at hl 1 rfl) ?_
    refine lv_iconst (v := 1) hx hb dX1_layPoint_23 (by decide) ?_
    obtain ⟨z6, hz6, hF⟩ := bnd hF
    refine inV (runN (host := "BirdParlour") C0 hlo hK hZ hW hS (kX4_put l lo g h _ 11 i0 a1 1 (al10 11 hi0 (by decide)) (by decide) _ hz6) wCO_X4_put (by decide +kernel) wST_X4_put wIN_X4 hdsX4_put ⟨Nat.le_of_ble_eq_true rfl, Nat.le_of_ble_eq_true rfl⟩ rfl hl.1 rfl (Nat.le_of_ble_eq_true rfl) dX1_layPoint_24 ⟨Nat.le_of_ble_eq_true rfl, Nat.le_of_ble_eq_true rfl⟩) hS (fun H locs hW hS => ?_)
    refine lv_aload_n hx hb dX1_layPoint_27 rfl (lv_at hl 0 rfl) ?_
    refine get10 C0 hK hW i0 (al10 10 hi0 (by decide)) 1 (by decide) wFL_X1_15 rfl rfl dX1_layPoint_28 ?_
    refine lv_iload_n hx hb dX1_layPoint_31 rfl (lv_at hl 1 rfl) ?_
    refine lv_iload_n hx hb dX1_layPoint_32 rfl (lv_at hl 2 rfl) ?_
    obtain ⟨z7, hz7, hF⟩ := bnd hF
    refine inV (runN (host := "BirdParlour") C0 hlo hK hZ hW hS (kX4_put l lo g h _ 12 i0 a1 a2 (al10 12 hi0 (by decide)) (by decide) _ hz7) wCO_X4_put (by decide +kernel) wST_X4_put wIN_X4 hdsX4_put ⟨Nat.le_of_ble_eq_true rfl, Nat.le_of_ble_eq_true rfl⟩ rfl hl.1 rfl (Nat.le_of_ble_eq_true rfl) dX1_layPoint_33 ⟨Nat.le_of_ble_eq_true rfl, Nat.le_of_ble_eq_true rfl⟩) hS (fun H locs hW hS => ?_)
    refine lv_aload_n hx hb dX1_layPoint_36 rfl (lv_at hl 0 rfl) ?_
    refine lv_iload_n hx hb dX1_layPoint_37 rfl (lv_at hl 3 rfl) ?_
    obtain ⟨z8, hz8, hF⟩ := bnd hF
    refine inV (runV C0 hlo hK hZ hW hS (kX1_draw l lo g h _ i0 a3 hi0 _ hz8) wCO_X1_draw wML_X1_34 wIM_X1_draw wSE_X1_X1_draw wIN_X1 hdX1_draw ⟨Nat.le_of_ble_eq_true rfl, Nat.le_of_ble_eq_true rfl⟩ (recvK hK hW (al10 10 hi0 (by decide)) (ct10 i0) rfl) rfl hl.1 rfl (Nat.le_of_ble_eq_true rfl) dX1_layPoint_38 ⟨Nat.le_of_ble_eq_true rfl, Nat.le_of_ble_eq_true rfl⟩) hS (fun H locs hW hS => ?_)
    cases hF
    exact retV C0 hr hlk hW hS dX1_layPoint_41
theorem hdX1_takePoint : yX1_takePoint.cls = RX1 ∧ yX1_takePoint.cls ≠ "java/lang/invoke/MethodHandle" ∧ yX1_takePoint.cls ≠ "java/lang/invoke/VarHandle" ∧ (parseMethodDescriptor yX1_takePoint.desc).map (fun d => d.parameters.length) = some 2 := by decide +kernel
def FX1_takePoint (ns nb : Nat) (σ : Sg) (i0 : Nat) (a1 : Int32) (a2 : Int32) : Option Sg :=
  (FX1_hasPoint ns nb σ i0 a1).bind fun z1 => if z1.1 = 0 then ((FX4_put ns nb z1.2 11 i0 a1 0).bind fun z3 => (FX1_draw ns nb z3 i0 a2).bind fun z4 => some z4) else ((FX4_put ns nb (sI z1.2 10 i0 2 ((z1.2.1 10 i0 2) - 1)) 11 i0 a1 0).bind fun z5 => (FX1_draw ns nb z5 i0 a2).bind fun z6 => some z6)
set_option maxHeartbeats 4000000 in
set_option maxRecDepth 100000 in
theorem kX1_takePoint (l : Launch) (lo : Nat) (g : Gx) (h : Sh) (σ : Sg) (i0 : Nat) (a1 : Int32) (a2 : Int32) (hi0 : i0 < 3 * h.2.1) (σ1 : Sg) (hF : FX1_takePoint h.1 h.2.1 σ i0 a1 a2 = some σ1) : MV l yX1_takePoint (ws_ yX1_takePoint cX1_takePoint 3 none) 4 90 0 0 lo g h [.ref (h.2.2 10 i0), .int a1, .int a2] σ σ1 := by
  refine ofB (own := RX1) (by decide +kernel) rfl (fun p e s m below meth c C0 hr hlk hlo hK hZ hW hS ls hl => ?_) (Nat.le_of_ble_eq_true rfl)
  have hx := C0.1
  have hb := C0.2.1
  have hl : lv_has ls 3 [(0, .ref (h.2.2 10 i0)), (1, .int a1), (2, .int a2)] := hl
  unfold FX1_takePoint at hF
  refine lv_aload_n hx hb dX1_takePoint_0 rfl (lv_at hl 0 rfl) ?_
  refine lv_iload_n hx hb dX1_takePoint_1 rfl (lv_at hl 1 rfl) ?_
  obtain ⟨z1, hz1, hF⟩ := bnd hF
  refine inI (runV C0 hlo hK hZ hW hS (kX1_hasPoint l lo g h _ i0 a1 hi0 _ _ hz1) wCO_X1_hasPoint wML_X1_22 wIM_X1_hasPoint wSE_X1_X1_hasPoint wIN_X1 hdX1_hasPoint ⟨Nat.le_of_ble_eq_true rfl, Nat.le_of_ble_eq_true rfl⟩ (recvK hK hW (al10 10 hi0 (by decide)) (ct10 i0) rfl) rfl hl.1 rfl (Nat.le_of_ble_eq_true rfl) dX1_takePoint_2 ⟨Nat.le_of_ble_eq_true rfl, Nat.le_of_ble_eq_true rfl⟩) hS (fun H locs hW hS => ?_)
  refine lv_if_eq (tgt := 18) hx hb dX1_takePoint_5 (by decide) (fun c2 => ?_) (fun c2 => ?_)
  · rw [if_pos c2] at hF
    refine lv_aload_n hx hb dX1_takePoint_18 rfl (lv_at hl 0 rfl) ?_
    refine get10 C0 hK hW i0 (al10 10 hi0 (by decide)) 0 (by decide) wFL_X1_9 rfl rfl dX1_takePoint_19 ?_
    refine lv_iload_n hx hb dX1_takePoint_22 rfl (lv_at hl 1 rfl) ?_
    refine lv_iconst (v := 0) hx hb dX1_takePoint_23 (by decide) ?_
    obtain ⟨z3, hz3, hF⟩ := bnd hF
    refine inV (runN (host := "BirdParlour") C0 hlo hK hZ hW hS (kX4_put l lo g h _ 11 i0 a1 0 (al10 11 hi0 (by decide)) (by decide) _ hz3) wCO_X4_put (by decide +kernel) wST_X4_put wIN_X4 hdsX4_put ⟨Nat.le_of_ble_eq_true rfl, Nat.le_of_ble_eq_true rfl⟩ rfl hl.1 rfl (Nat.le_of_ble_eq_true rfl) dX1_takePoint_24 ⟨Nat.le_of_ble_eq_true rfl, Nat.le_of_ble_eq_true rfl⟩) hS (fun H locs hW hS => ?_)
    refine lv_aload_n hx hb dX1_takePoint_27 rfl (lv_at hl 0 rfl) ?_
    refine lv_iload_n hx hb dX1_takePoint_28 rfl (lv_at hl 2 rfl) ?_
    obtain ⟨z4, hz4, hF⟩ := bnd hF
    refine inV (runV C0 hlo hK hZ hW hS (kX1_draw l lo g h _ i0 a2 hi0 _ hz4) wCO_X1_draw wML_X1_34 wIM_X1_draw wSE_X1_X1_draw wIN_X1 hdX1_draw ⟨Nat.le_of_ble_eq_true rfl, Nat.le_of_ble_eq_true rfl⟩ (recvK hK hW (al10 10 hi0 (by decide)) (ct10 i0) rfl) rfl hl.1 rfl (Nat.le_of_ble_eq_true rfl) dX1_takePoint_29 ⟨Nat.le_of_ble_eq_true rfl, Nat.le_of_ble_eq_true rfl⟩) hS (fun H locs hW hS => ?_)
    cases hF
    exact retV C0 hr hlk hW hS dX1_takePoint_32
  · rw [if_neg c2] at hF
    refine lv_aload_n hx hb dX1_takePoint_8 rfl (lv_at hl 0 rfl) ?_
    refine lv_dup hx hb dX1_takePoint_9 rfl ?_
    refine get10 C0 hK hW i0 (al10 10 hi0 (by decide)) 2 (by decide) wFL_X1_26 rfl rfl dX1_takePoint_10 ?_
    refine lv_iconst (v := 1) hx hb dX1_takePoint_13 (by decide) ?_
    refine lv_isub hx hb dX1_takePoint_14 ?_
    refine put10_2 C0 hK hW hS i0 (al10 10 hi0 (by decide)) wFL_X1_26 dX1_takePoint_15 (fun H locs hW hS => ?_)
    refine lv_aload_n hx hb dX1_takePoint_18 rfl (lv_at hl 0 rfl) ?_
    refine get10 C0 hK hW i0 (al10 10 hi0 (by decide)) 0 (by decide) wFL_X1_9 rfl rfl dX1_takePoint_19 ?_
    refine lv_iload_n hx hb dX1_takePoint_22 rfl (lv_at hl 1 rfl) ?_
    refine lv_iconst (v := 0) hx hb dX1_takePoint_23 (by decide) ?_
    obtain ⟨z5, hz5, hF⟩ := bnd hF
    refine inV (runN (host := "BirdParlour") C0 hlo hK hZ hW hS (kX4_put l lo g h _ 11 i0 a1 0 (al10 11 hi0 (by decide)) (by decide) _ hz5) wCO_X4_put (by decide +kernel) wST_X4_put wIN_X4 hdsX4_put ⟨Nat.le_of_ble_eq_true rfl, Nat.le_of_ble_eq_true rfl⟩ rfl hl.1 rfl (Nat.le_of_ble_eq_true rfl) dX1_takePoint_24 ⟨Nat.le_of_ble_eq_true rfl, Nat.le_of_ble_eq_true rfl⟩) hS (fun H locs hW hS => ?_)
    refine lv_aload_n hx hb dX1_takePoint_27 rfl (lv_at hl 0 rfl) ?_
    refine lv_iload_n hx hb dX1_takePoint_28 rfl (lv_at hl 2 rfl) ?_
    obtain ⟨z6, hz6, hF⟩ := bnd hF
    refine inV (runV C0 hlo hK hZ hW hS (kX1_draw l lo g h _ i0 a2 hi0 _ hz6) wCO_X1_draw wML_X1_34 wIM_X1_draw wSE_X1_X1_draw wIN_X1 hdX1_draw ⟨Nat.le_of_ble_eq_true rfl, Nat.le_of_ble_eq_true rfl⟩ (recvK hK hW (al10 10 hi0 (by decide)) (ct10 i0) rfl) rfl hl.1 rfl (Nat.le_of_ble_eq_true rfl) dX1_takePoint_29 ⟨Nat.le_of_ble_eq_true rfl, Nat.le_of_ble_eq_true rfl⟩) hS (fun H locs hW hS => ?_)
    cases hF
    exact retV C0 hr hlk hW hS dX1_takePoint_32
theorem hdX0_isDrivenBy : yX0_isDrivenBy.cls = RX0 ∧ yX0_isDrivenBy.cls ≠ "java/lang/invoke/MethodHandle" ∧ yX0_isDrivenBy.cls ≠ "java/lang/invoke/VarHandle" ∧ (parseMethodDescriptor yX0_isDrivenBy.desc).map (fun d => d.parameters.length) = some 1 := by decide +kernel
def FX0_isDrivenBy (ns nb : Nat) (σ : Sg) (i0 : Nat) (a1 : Int32) : Option (Int32 × Sg) :=
  if (σ.1 6 i0 9) = 0 then (some (0, σ)) else (if (σ.1 6 i0 0) = a1 then (some (1, σ)) else (some (0, σ)))
set_option maxHeartbeats 4000000 in
set_option maxRecDepth 100000 in
theorem kX0_isDrivenBy (l : Launch) (lo : Nat) (g : Gx) (h : Sh) (σ : Sg) (i0 : Nat) (a1 : Int32) (hi0 : i0 < h.2.1) (r : Int32) (σ1 : Sg) (hF : FX0_isDrivenBy h.1 h.2.1 σ i0 a1 = some (r, σ1)) : MI l yX0_isDrivenBy (ws_ yX0_isDrivenBy cX0_isDrivenBy 2 (some .boolean)) 0 0 0 0 lo g h [.ref (h.2.2 6 i0), .int a1] σ r σ1 := by
  refine ofB (own := RX0) (by decide +kernel) rfl (fun p e s m below meth c C0 hr hlk hlo hK hZ hW hS ls hl => ?_) (Nat.le_of_ble_eq_true rfl)
  have hx := C0.1
  have hb := C0.2.1
  have hl : lv_has ls 2 [(0, .ref (h.2.2 6 i0)), (1, .int a1)] := hl
  unfold FX0_isDrivenBy at hF
  refine lv_aload_n hx hb dX0_isDrivenBy_0 rfl (lv_at hl 0 rfl) ?_
  refine get6 C0 hK hW i0 (al6 6 hi0 (by decide)) 9 (by decide) wFL_X0_40 rfl rfl dX0_isDrivenBy_1 ?_
  refine lv_if_eq (tgt := 19) hx hb dX0_isDrivenBy_4 (by decide) (fun c1 => ?_) (fun c1 => ?_)
  · rw [if_pos c1] at hF
    refine lv_iconst (v := 0) hx hb dX0_isDrivenBy_19 (by decide) ?_
    cases hF
    exact retZ C0 hr hlk (Or.inl rfl) hW hS dX0_isDrivenBy_20
  · rw [if_neg c1] at hF
    refine lv_aload_n hx hb dX0_isDrivenBy_7 rfl (lv_at hl 0 rfl) ?_
    refine get6 C0 hK hW i0 (al6 6 hi0 (by decide)) 0 (by decide) wFL_X0_24 rfl rfl dX0_isDrivenBy_8 ?_
    refine lv_iload_n hx hb dX0_isDrivenBy_11 rfl (lv_at hl 1 rfl) ?_
    refine lv_icmp_ne (tgt := 19) hx hb dX0_isDrivenBy_12 (by decide) (fun c2 => ?_) (fun c2 => ?_)
    · rw [if_neg c2] at hF
      refine lv_iconst (v := 0) hx hb dX0_isDrivenBy_19 (by decide) ?_
      cases hF
      exact retZ C0 hr hlk (Or.inl rfl) hW hS dX0_isDrivenBy_20
    · rw [if_pos c2] at hF
      refine lv_iconst (v := 1) hx hb dX0_isDrivenBy_15 (by decide) ?_
      refine lv_goto (tgt := 20) hx hb dX0_isDrivenBy_16 (by decide) ?_
      cases hF
      exact retZ C0 hr hlk (Or.inr rfl) hW hS dX0_isDrivenBy_20
theorem hdX0_goneWhen : yX0_goneWhen.cls = RX0 ∧ yX0_goneWhen.cls ≠ "java/lang/invoke/MethodHandle" ∧ yX0_goneWhen.cls ≠ "java/lang/invoke/VarHandle" ∧ (parseMethodDescriptor yX0_goneWhen.desc).map (fun d => d.parameters.length) = some 1 := by decide +kernel
def FX0_goneWhen (ns nb : Nat) (σ : Sg) (i0 : Nat) (a1 : Int64) : Option (Int64 × Sg) :=
  if (lg_cmp (1000 * ((σ.1 6 i0 4).toInt64)) 0) ≤ 0 then (some (0, σ)) else (if (1000 * ((σ.1 6 i0 4).toInt64)) = 0 then none else (some ((((a1 - (σ.2 6 i0 10)) * ((σ.1 6 i0 3).toInt64)) * ((σ.1 6 i0 2).toInt64)) / (1000 * ((σ.1 6 i0 4).toInt64)), σ)))
set_option maxHeartbeats 4000000 in
set_option maxRecDepth 100000 in
theorem kX0_goneWhen (l : Launch) (lo : Nat) (g : Gx) (h : Sh) (σ : Sg) (i0 : Nat) (a1 : Int64) (hi0 : i0 < h.2.1) (r : Int64) (σ1 : Sg) (hF : FX0_goneWhen h.1 h.2.1 σ i0 a1 = some (r, σ1)) : ML l yX0_goneWhen (ws_ yX0_goneWhen cX0_goneWhen 5 (some .long)) 0 0 0 0 lo g h [.ref (h.2.2 6 i0), .long a1] σ r σ1 := by
  refine ofB (own := RX0) (by decide +kernel) rfl (fun p e s m below meth c C0 hr hlk hlo hK hZ hW hS ls hl => ?_) (Nat.le_of_ble_eq_true rfl)
  have hx := C0.1
  have hb := C0.2.1
  have hl : lv_has ls 5 [(0, .ref (h.2.2 6 i0)), (1, .long a1)] := hl
  unfold FX0_goneWhen at hF
  refine lv_ldc2 hx hb C0.2.2.2.1 (C0.2.2.2.2 _ wconstantLong_X0_61) dX0_goneWhen_0 ?_
  refine lv_aload_n hx hb dX0_goneWhen_3 rfl (lv_at hl 0 rfl) ?_
  refine get6 C0 hK hW i0 (al6 6 hi0 (by decide)) 4 (by decide) wFL_X0_37 rfl rfl dX0_goneWhen_4 ?_
  refine lv_i2l hx hb dX0_goneWhen_7 rfl ?_
  refine lv_lmul hx hb dX0_goneWhen_8 ?_
  refine lv_lstore_n (lv' := [(3, .long (1000 * ((σ.1 6 i0 4).toInt64))), (0, .ref (h.2.2 6 i0)), (1, .long a1)]) hx hb dX0_goneWhen_9 rfl hl (by decide) rfl (fun ls hl => ?_)
  refine lv_lload_n hx hb dX0_goneWhen_10 rfl (lv_at hl 0 rfl) ?_
  refine lv_lconst (v := 0) hx hb dX0_goneWhen_11 (by decide) ?_
  refine W.lcmp hx hb dX0_goneWhen_12 ?_
  refine lv_if_le (tgt := 39) hx hb dX0_goneWhen_13 (by decide) (fun c1 => ?_) (fun c1 => ?_)
  · rw [if_pos c1] at hF
    refine lv_lconst (v := 0) hx hb dX0_goneWhen_39 (by decide) ?_
    cases hF
    exact retL C0 hr hlk hW hS dX0_goneWhen_40
  · rw [if_neg c1] at hF
    refine lv_lload_n hx hb dX0_goneWhen_16 rfl (lv_at hl 2 rfl) ?_
    refine lv_aload_n hx hb dX0_goneWhen_17 rfl (lv_at hl 1 rfl) ?_
    refine get6 C0 hK hW i0 (al6 6 hi0 (by decide)) 10 (by decide) wFL_X0_44 rfl rfl dX0_goneWhen_18 ?_
    refine lv_lsub hx hb dX0_goneWhen_21 ?_
    refine lv_aload_n hx hb dX0_goneWhen_22 rfl (lv_at hl 1 rfl) ?_
    refine get6 C0 hK hW i0 (al6 6 hi0 (by decide)) 3 (by decide) wFL_X0_34 rfl rfl dX0_goneWhen_23 ?_
    refine lv_i2l hx hb dX0_goneWhen_26 rfl ?_
    refine lv_lmul hx hb dX0_goneWhen_27 ?_
    refine lv_aload_n hx hb dX0_goneWhen_28 rfl (lv_at hl 1 rfl) ?_
    refine get6 C0 hK hW i0 (al6 6 hi0 (by decide)) 2 (by decide) wFL_X0_31 rfl rfl dX0_goneWhen_29 ?_
    refine lv_i2l hx hb dX0_goneWhen_32 rfl ?_
    refine lv_lmul hx hb dX0_goneWhen_33 ?_
    refine lv_lload_n hx hb dX0_goneWhen_34 rfl (lv_at hl 0 rfl) ?_
    obtain ⟨hg, hF⟩ := grd hF
    refine lv_ldiv hx hb dX0_goneWhen_35 hg ?_
    refine lv_goto (tgt := 40) hx hb dX0_goneWhen_36 (by decide) ?_
    cases hF
    exact retL C0 hr hlk hW hS dX0_goneWhen_40
theorem hdX0_placeWhenGone : yX0_placeWhenGone.cls = RX0 ∧ yX0_placeWhenGone.cls ≠ "java/lang/invoke/MethodHandle" ∧ yX0_placeWhenGone.cls ≠ "java/lang/invoke/VarHandle" ∧ (parseMethodDescriptor yX0_placeWhenGone.desc).map (fun d => d.parameters.length) = some 1 := by decide +kernel
def FX0_placeWhenGone (ns nb : Nat) (σ : Sg) (i0 : Nat) (a1 : Int64) : Option (Int32 × Sg) :=
  if (σ.1 6 i0 2) ≤ 0 then (some (0, σ)) else (if ((σ.1 6 i0 2).toInt64) = 0 then none else (some ((a1 - a1 / ((σ.1 6 i0 2).toInt64) * ((σ.1 6 i0 2).toInt64)).toInt32, σ)))
set_option maxHeartbeats 4000000 in
set_option maxRecDepth 100000 in
theorem kX0_placeWhenGone (l : Launch) (lo : Nat) (g : Gx) (h : Sh) (σ : Sg) (i0 : Nat) (a1 : Int64) (hi0 : i0 < h.2.1) (r : Int32) (σ1 : Sg) (hF : FX0_placeWhenGone h.1 h.2.1 σ i0 a1 = some (r, σ1)) : MI l yX0_placeWhenGone (ws_ yX0_placeWhenGone cX0_placeWhenGone 3 (some .int)) 0 0 0 0 lo g h [.ref (h.2.2 6 i0), .long a1] σ r σ1 := by
  refine ofB (own := RX0) (by decide +kernel) rfl (fun p e s m below meth c C0 hr hlk hlo hK hZ hW hS ls hl => ?_) (Nat.le_of_ble_eq_true rfl)
  have hx := C0.1
  have hb := C0.2.1
  have hl : lv_has ls 3 [(0, .ref (h.2.2 6 i0)), (1, .long a1)] := hl
  unfold FX0_placeWhenGone at hF
  refine lv_aload_n hx hb dX0_placeWhenGone_0 rfl (lv_at hl 0 rfl) ?_
  refine get6 C0 hK hW i0 (al6 6 hi0 (by decide)) 2 (by decide) wFL_X0_31 rfl rfl dX0_placeWhenGone_1 ?_
  refine lv_if_le (tgt := 18) hx hb dX0_placeWhenGone_4 (by decide) (fun c1 => ?_) (fun c1 => ?_)
  · rw [if_pos c1] at hF
    refine lv_iconst (v := 0) hx hb dX0_placeWhenGone_18 (by decide) ?_
    cases hF
    exact retI C0 hr hlk hW hS dX0_placeWhenGone_19
  · rw [if_neg c1] at hF
    refine lv_lload_n hx hb dX0_placeWhenGone_7 rfl (lv_at hl 1 rfl) ?_
    refine lv_aload_n hx hb dX0_placeWhenGone_8 rfl (lv_at hl 0 rfl) ?_
    refine get6 C0 hK hW i0 (al6 6 hi0 (by decide)) 2 (by decide) wFL_X0_31 rfl rfl dX0_placeWhenGone_9 ?_
    refine lv_i2l hx hb dX0_placeWhenGone_12 rfl ?_
    obtain ⟨hg, hF⟩ := grd hF
    refine lv_lrem hx hb dX0_placeWhenGone_13 hg ?_
    refine lv_l2i hx hb dX0_placeWhenGone_14 rfl ?_
    refine lv_goto (tgt := 19) hx hb dX0_placeWhenGone_15 (by decide) ?_
    cases hF
    exact retI C0 hr hlk hW hS dX0_placeWhenGone_19
theorem hdX0_placeNow : yX0_placeNow.cls = RX0 ∧ yX0_placeNow.cls ≠ "java/lang/invoke/MethodHandle" ∧ yX0_placeNow.cls ≠ "java/lang/invoke/VarHandle" ∧ (parseMethodDescriptor yX0_placeNow.desc).map (fun d => d.parameters.length) = some 0 := by decide +kernel
def FX0_placeNow (ns nb : Nat) (σ : Sg) (i0 : Nat) : Option (Int32 × Sg) :=
  (FX0_placeWhenGone ns nb σ i0 (σ.2 6 i0 11)).bind fun z1 => some (z1.1, z1.2)
set_option maxHeartbeats 4000000 in
set_option maxRecDepth 100000 in
theorem kX0_placeNow (l : Launch) (lo : Nat) (g : Gx) (h : Sh) (σ : Sg) (i0 : Nat) (hi0 : i0 < h.2.1) (r : Int32) (σ1 : Sg) (hF : FX0_placeNow h.1 h.2.1 σ i0 = some (r, σ1)) : MI l yX0_placeNow (ws_ yX0_placeNow cX0_placeNow 1 (some .int)) 1 22 0 0 lo g h [.ref (h.2.2 6 i0)] σ r σ1 := by
  refine ofB (own := RX0) (by decide +kernel) rfl (fun p e s m below meth c C0 hr hlk hlo hK hZ hW hS ls hl => ?_) (Nat.le_of_ble_eq_true rfl)
  have hx := C0.1
  have hb := C0.2.1
  have hl : lv_has ls 1 [(0, .ref (h.2.2 6 i0))] := hl
  unfold FX0_placeNow at hF
  refine lv_aload_n hx hb dX0_placeNow_0 rfl (lv_at hl 0 rfl) ?_
  refine lv_aload_n hx hb dX0_placeNow_1 rfl (lv_at hl 0 rfl) ?_
  refine get6 C0 hK hW i0 (al6 6 hi0 (by decide)) 11 (by decide) wFL_X0_49 rfl rfl dX0_placeNow_2 ?_
  obtain ⟨z1, hz1, hF⟩ := bnd hF
  refine inI (runV C0 hlo hK hZ hW hS (kX0_placeWhenGone l lo g h _ i0 (σ.2 6 i0 11) hi0 _ _ hz1) wCO_X0_placeWhenGone wML_X0_63 wIM_X0_placeWhenGone wSE_X0_X0_placeWhenGone wIN_X0 hdX0_placeWhenGone ⟨Nat.le_of_ble_eq_true rfl, Nat.le_of_ble_eq_true rfl⟩ (recvK hK hW (al6 6 hi0 (by decide)) (ct6 i0) rfl) rfl hl.1 rfl (Nat.le_of_ble_eq_true rfl) dX0_placeNow_5 ⟨Nat.le_of_ble_eq_true rfl, Nat.le_of_ble_eq_true rfl⟩) hS (fun H locs hW hS => ?_)
  cases hF
  exact retI C0 hr hlk hW hS dX0_placeNow_8
theorem hdX0_hasPlace : yX0_hasPlace.cls = RX0 ∧ yX0_hasPlace.cls ≠ "java/lang/invoke/MethodHandle" ∧ yX0_hasPlace.cls ≠ "java/lang/invoke/VarHandle" ∧ (parseMethodDescriptor yX0_hasPlace.desc).map (fun d => d.parameters.length) = some 1 := by decide +kernel
def FX0_hasPlace (ns nb : Nat) (σ : Sg) (i0 : Nat) (a1 : Int32) : Option (Int32 × Sg) :=
  (FX4_isIn ns nb σ a1 0 ((σ.1 6 i0 2) - 1)).bind fun z1 => if (z1.1 = 0 ∨ z1.1 = 1) then (some (z1.1, z1.2)) else none
set_option maxHeartbeats 4000000 in
set_option maxRecDepth 100000 in
theorem kX0_hasPlace (l : Launch) (lo : Nat) (g : Gx) (h : Sh) (σ : Sg) (i0 : Nat) (a1 : Int32) (hi0 : i0 < h.2.1) (r : Int32) (σ1 : Sg) (hF : FX0_hasPlace h.1 h.2.1 σ i0 a1 = some (r, σ1)) : MI l yX0_hasPlace (ws_ yX0_hasPlace cX0_hasPlace 2 (some .boolean)) 1 22 0 0 lo g h [.ref (h.2.2 6 i0), .int a1] σ r σ1 := by
  refine ofB (own := RX0) (by decide +kernel) rfl (fun p e s m below meth c C0 hr hlk hlo hK hZ hW hS ls hl => ?_) (Nat.le_of_ble_eq_true rfl)
  have hx := C0.1
  have hb := C0.2.1
  have hl : lv_has ls 2 [(0, .ref (h.2.2 6 i0)), (1, .int a1)] := hl
  unfold FX0_hasPlace at hF
  refine lv_iload_n hx hb dX0_hasPlace_0 rfl (lv_at hl 1 rfl) ?_
  refine lv_iconst (v := 0) hx hb dX0_hasPlace_1 (by decide) ?_
  refine lv_aload_n hx hb dX0_hasPlace_2 rfl (lv_at hl 0 rfl) ?_
  refine get6 C0 hK hW i0 (al6 6 hi0 (by decide)) 2 (by decide) wFL_X0_31 rfl rfl dX0_hasPlace_3 ?_
  refine lv_iconst (v := 1) hx hb dX0_hasPlace_6 (by decide) ?_
  refine lv_isub hx hb dX0_hasPlace_7 ?_
  obtain ⟨z1, hz1, hF⟩ := bnd hF
  refine inI (runN (host := "BirdParlour") C0 hlo hK hZ hW hS (kX4_isIn l lo g h _ a1 0 ((σ.1 6 i0 2) - 1)  _ _ hz1) wCO_X4_isIn (by decide +kernel) wST_X4_isIn wIN_X4 hdsX4_isIn ⟨Nat.le_of_ble_eq_true rfl, Nat.le_of_ble_eq_true rfl⟩ rfl hl.1 rfl (Nat.le_of_ble_eq_true rfl) dX0_hasPlace_8 ⟨Nat.le_of_ble_eq_true rfl, Nat.le_of_ble_eq_true rfl⟩) hS (fun H locs hW hS => ?_)
  obtain ⟨hz, hF⟩ := grp hF
  cases hF
  exact retZ C0 hr hlk hz hW hS dX0_hasPlace_11
theorem hdX0_hasPin : yX0_hasPin.cls = RX0 ∧ yX0_hasPin.cls ≠ "java/lang/invoke/MethodHandle" ∧ yX0_hasPin.cls ≠ "java/lang/invoke/VarHandle" ∧ (parseMethodDescriptor yX0_hasPin.desc).map (fun d => d.parameters.length) = some 2 := by decide +kernel
def FX0_hasPin (ns nb : Nat) (σ : Sg) (i0 : Nat) (a1 : Int32) (a2 : Int32) : Option (Int32 × Sg) :=
  (FX4_at ns nb σ 7 i0 a1).bind fun z1 => if ((z1.1 >>> (a2 &&& 31)) &&& 1) = 1 then (some (1, z1.2)) else (some (0, z1.2))
set_option maxHeartbeats 4000000 in
set_option maxRecDepth 100000 in
theorem kX0_hasPin (l : Launch) (lo : Nat) (g : Gx) (h : Sh) (σ : Sg) (i0 : Nat) (a1 : Int32) (a2 : Int32) (hi0 : i0 < h.2.1) (r : Int32) (σ1 : Sg) (hF : FX0_hasPin h.1 h.2.1 σ i0 a1 a2 = some (r, σ1)) : MI l yX0_hasPin (ws_ yX0_hasPin cX0_hasPin 3 (some .boolean)) 1 21 0 0 lo g h [.ref (h.2.2 6 i0), .int a1, .int a2] σ r σ1 := by
  refine ofB (own := RX0) (by decide +kernel) rfl (fun p e s m below meth c C0 hr hlk hlo hK hZ hW hS ls hl => ?_) (Nat.le_of_ble_eq_true rfl)
  have hx := C0.1
  have hb := C0.2.1
  have hl : lv_has ls 3 [(0, .ref (h.2.2 6 i0)), (1, .int a1), (2, .int a2)] := hl
  unfold FX0_hasPin at hF
  refine lv_aload_n hx hb dX0_hasPin_0 rfl (lv_at hl 0 rfl) ?_
  refine get6 C0 hK hW i0 (al6 6 hi0 (by decide)) 5 (by decide) wFL_X0_9 rfl rfl dX0_hasPin_1 ?_
  refine lv_iload_n hx hb dX0_hasPin_4 rfl (lv_at hl 1 rfl) ?_
  obtain ⟨z1, hz1, hF⟩ := bnd hF
  refine inI (runN (host := "BirdParlour") C0 hlo hK hZ hW hS (kX4_at l lo g h _ 7 i0 a1 (al6 7 hi0 (by decide)) (by decide) _ _ hz1) wCO_X4_at (by decide +kernel) wST_X4_at wIN_X4 hdsX4_at ⟨Nat.le_of_ble_eq_true rfl, Nat.le_of_ble_eq_true rfl⟩ rfl hl.1 rfl (Nat.le_of_ble_eq_true rfl) dX0_hasPin_5 ⟨Nat.le_of_ble_eq_true rfl, Nat.le_of_ble_eq_true rfl⟩) hS (fun H locs hW hS => ?_)
  refine lv_iload_n hx hb dX0_hasPin_8 rfl (lv_at hl 2 rfl) ?_
  refine lv_ishr hx hb dX0_hasPin_9 ?_
  refine lv_iconst (v := 1) hx hb dX0_hasPin_10 (by decide) ?_
  refine lv_iand hx hb dX0_hasPin_11 ?_
  refine lv_iconst (v := 1) hx hb dX0_hasPin_12 (by decide) ?_
  refine lv_icmp_ne (tgt := 20) hx hb dX0_hasPin_13 (by decide) (fun c2 => ?_) (fun c2 => ?_)
  · rw [if_neg c2] at hF
    refine lv_iconst (v := 0) hx hb dX0_hasPin_20 (by decide) ?_
    cases hF
    exact retZ C0 hr hlk (Or.inl rfl) hW hS dX0_hasPin_21
  · rw [if_pos c2] at hF
    refine lv_iconst (v := 1) hx hb dX0_hasPin_16 (by decide) ?_
    refine lv_goto (tgt := 21) hx hb dX0_hasPin_17 (by decide) ?_
    cases hF
    exact retZ C0 hr hlk (Or.inr rfl) hW hS dX0_hasPin_21
theorem hdX0_turnPin : yX0_turnPin.cls = RX0 ∧ yX0_turnPin.cls ≠ "java/lang/invoke/MethodHandle" ∧ yX0_turnPin.cls ≠ "java/lang/invoke/VarHandle" ∧ (parseMethodDescriptor yX0_turnPin.desc).map (fun d => d.parameters.length) = some 2 := by decide +kernel
def FX0_turnPin (ns nb : Nat) (σ : Sg) (i0 : Nat) (a1 : Int32) (a2 : Int32) : Option Sg :=
  (FX0_hasPin ns nb σ i0 a1 a2).bind fun z1 => if z1.1 = 0 then ((FX4_at ns nb (sI z1.2 6 i0 8 ((σ.1 6 i0 8) + 1)) 7 i0 a1).bind fun z3 => (FX4_put ns nb z3.2 7 i0 a1 (z3.1 ^^^ (1 <<< (a2 &&& 31)))).bind fun z4 => some z4) else ((FX4_at ns nb (sI z1.2 6 i0 8 ((σ.1 6 i0 8) + (-1))) 7 i0 a1).bind fun z5 => (FX4_put ns nb z5.2 7 i0 a1 (z5.1 ^^^ (1 <<< (a2 &&& 31)))).bind fun z6 => some z6)
set_option maxHeartbeats 4000000 in
set_option maxRecDepth 100000 in
theorem kX0_turnPin (l : Launch) (lo : Nat) (g : Gx) (h : Sh) (σ : Sg) (i0 : Nat) (a1 : Int32) (a2 : Int32) (hi0 : i0 < h.2.1) (σ1 : Sg) (hF : FX0_turnPin h.1 h.2.1 σ i0 a1 a2 = some σ1) : MV l yX0_turnPin (ws_ yX0_turnPin cX0_turnPin 3 none) 2 43 0 0 lo g h [.ref (h.2.2 6 i0), .int a1, .int a2] σ σ1 := by
  refine ofB (own := RX0) (by decide +kernel) rfl (fun p e s m below meth c C0 hr hlk hlo hK hZ hW hS ls hl => ?_) (Nat.le_of_ble_eq_true rfl)
  have hx := C0.1
  have hb := C0.2.1
  have hl : lv_has ls 3 [(0, .ref (h.2.2 6 i0)), (1, .int a1), (2, .int a2)] := hl
  unfold FX0_turnPin at hF
  refine lv_aload_n hx hb dX0_turnPin_0 rfl (lv_at hl 0 rfl) ?_
  refine lv_dup hx hb dX0_turnPin_1 rfl ?_
  refine get6 C0 hK hW i0 (al6 6 hi0 (by decide)) 8 (by decide) wFL_X0_75 rfl rfl dX0_turnPin_2 ?_
  refine lv_aload_n hx hb dX0_turnPin_5 rfl (lv_at hl 0 rfl) ?_
  refine lv_iload_n hx hb dX0_turnPin_6 rfl (lv_at hl 1 rfl) ?_
  refine lv_iload_n hx hb dX0_turnPin_7 rfl (lv_at hl 2 rfl) ?_
  obtain ⟨z1, hz1, hF⟩ := bnd hF
  refine inI (runV C0 hlo hK hZ hW hS (kX0_hasPin l lo g h _ i0 a1 a2 hi0 _ _ hz1) wCO_X0_hasPin wML_X0_78 wIM_X0_hasPin wSE_X0_X0_hasPin wIN_X0 hdX0_hasPin ⟨Nat.le_of_ble_eq_true rfl, Nat.le_of_ble_eq_true rfl⟩ (recvK hK hW (al6 6 hi0 (by decide)) (ct6 i0) rfl) rfl hl.1 rfl (Nat.le_of_ble_eq_true rfl) dX0_turnPin_8 ⟨Nat.le_of_ble_eq_true rfl, Nat.le_of_ble_eq_true rfl⟩) hS (fun H locs hW hS => ?_)
  refine lv_if_eq (tgt := 18) hx hb dX0_turnPin_11 (by decide) (fun c2 => ?_) (fun c2 => ?_)
  · rw [if_pos c2] at hF
    refine lv_iconst (v := 1) hx hb dX0_turnPin_18 (by decide) ?_
    refine lv_iadd hx hb dX0_turnPin_19 ?_
    refine put6_8 C0 hK hW hS i0 (al6 6 hi0 (by decide)) wFL_X0_75 dX0_turnPin_20 (fun H locs hW hS => ?_)
    refine lv_aload_n hx hb dX0_turnPin_23 rfl (lv_at hl 0 rfl) ?_
    refine get6 C0 hK hW i0 (al6 6 hi0 (by decide)) 5 (by decide) wFL_X0_9 rfl rfl dX0_turnPin_24 ?_
    refine lv_iload_n hx hb dX0_turnPin_27 rfl (lv_at hl 1 rfl) ?_
    refine lv_aload_n hx hb dX0_turnPin_28 rfl (lv_at hl 0 rfl) ?_
    refine get6 C0 hK hW i0 (al6 6 hi0 (by decide)) 5 (by decide) wFL_X0_9 rfl rfl dX0_turnPin_29 ?_
    refine lv_iload_n hx hb dX0_turnPin_32 rfl (lv_at hl 1 rfl) ?_
    obtain ⟨z3, hz3, hF⟩ := bnd hF
    refine inI (runN (host := "BirdParlour") C0 hlo hK hZ hW hS (kX4_at l lo g h _ 7 i0 a1 (al6 7 hi0 (by decide)) (by decide) _ _ hz3) wCO_X4_at (by decide +kernel) wST_X4_at wIN_X4 hdsX4_at ⟨Nat.le_of_ble_eq_true rfl, Nat.le_of_ble_eq_true rfl⟩ rfl hl.1 rfl (Nat.le_of_ble_eq_true rfl) dX0_turnPin_33 ⟨Nat.le_of_ble_eq_true rfl, Nat.le_of_ble_eq_true rfl⟩) hS (fun H locs hW hS => ?_)
    refine lv_iconst (v := 1) hx hb dX0_turnPin_36 (by decide) ?_
    refine lv_iload_n hx hb dX0_turnPin_37 rfl (lv_at hl 2 rfl) ?_
    refine lv_ishl hx hb dX0_turnPin_38 ?_
    refine lv_ixor hx hb dX0_turnPin_39 ?_
    obtain ⟨z4, hz4, hF⟩ := bnd hF
    refine inV (runN (host := "BirdParlour") C0 hlo hK hZ hW hS (kX4_put l lo g h _ 7 i0 a1 (z3.1 ^^^ (1 <<< (a2 &&& 31))) (al6 7 hi0 (by decide)) (by decide) _ hz4) wCO_X4_put (by decide +kernel) wST_X4_put wIN_X4 hdsX4_put ⟨Nat.le_of_ble_eq_true rfl, Nat.le_of_ble_eq_true rfl⟩ rfl hl.1 rfl (Nat.le_of_ble_eq_true rfl) dX0_turnPin_40 ⟨Nat.le_of_ble_eq_true rfl, Nat.le_of_ble_eq_true rfl⟩) hS (fun H locs hW hS => ?_)
    cases hF
    exact retV C0 hr hlk hW hS dX0_turnPin_43
  · rw [if_neg c2] at hF
    refine lv_iconst (v := (-1)) hx hb dX0_turnPin_14 (by decide) ?_
    refine lv_goto (tgt := 19) hx hb dX0_turnPin_15 (by decide) ?_
    refine lv_iadd hx hb dX0_turnPin_19 ?_
    refine put6_8 C0 hK hW hS i0 (al6 6 hi0 (by decide)) wFL_X0_75 dX0_turnPin_20 (fun H locs hW hS => ?_)
    refine lv_aload_n hx hb dX0_turnPin_23 rfl (lv_at hl 0 rfl) ?_
    refine get6 C0 hK hW i0 (al6 6 hi0 (by decide)) 5 (by decide) wFL_X0_9 rfl rfl dX0_turnPin_24 ?_
    refine lv_iload_n hx hb dX0_turnPin_27 rfl (lv_at hl 1 rfl) ?_
    refine lv_aload_n hx hb dX0_turnPin_28 rfl (lv_at hl 0 rfl) ?_
    refine get6 C0 hK hW i0 (al6 6 hi0 (by decide)) 5 (by decide) wFL_X0_9 rfl rfl dX0_turnPin_29 ?_
    refine lv_iload_n hx hb dX0_turnPin_32 rfl (lv_at hl 1 rfl) ?_
    obtain ⟨z5, hz5, hF⟩ := bnd hF
    refine inI (runN (host := "BirdParlour") C0 hlo hK hZ hW hS (kX4_at l lo g h _ 7 i0 a1 (al6 7 hi0 (by decide)) (by decide) _ _ hz5) wCO_X4_at (by decide +kernel) wST_X4_at wIN_X4 hdsX4_at ⟨Nat.le_of_ble_eq_true rfl, Nat.le_of_ble_eq_true rfl⟩ rfl hl.1 rfl (Nat.le_of_ble_eq_true rfl) dX0_turnPin_33 ⟨Nat.le_of_ble_eq_true rfl, Nat.le_of_ble_eq_true rfl⟩) hS (fun H locs hW hS => ?_)
    refine lv_iconst (v := 1) hx hb dX0_turnPin_36 (by decide) ?_
    refine lv_iload_n hx hb dX0_turnPin_37 rfl (lv_at hl 2 rfl) ?_
    refine lv_ishl hx hb dX0_turnPin_38 ?_
    refine lv_ixor hx hb dX0_turnPin_39 ?_
    obtain ⟨z6, hz6, hF⟩ := bnd hF
    refine inV (runN (host := "BirdParlour") C0 hlo hK hZ hW hS (kX4_put l lo g h _ 7 i0 a1 (z5.1 ^^^ (1 <<< (a2 &&& 31))) (al6 7 hi0 (by decide)) (by decide) _ hz6) wCO_X4_put (by decide +kernel) wST_X4_put wIN_X4 hdsX4_put ⟨Nat.le_of_ble_eq_true rfl, Nat.le_of_ble_eq_true rfl⟩ rfl hl.1 rfl (Nat.le_of_ble_eq_true rfl) dX0_turnPin_40 ⟨Nat.le_of_ble_eq_true rfl, Nat.le_of_ble_eq_true rfl⟩) hS (fun H locs hW hS => ?_)
    cases hF
    exact retV C0 hr hlk hW hS dX0_turnPin_43
theorem hdX0_camAt : yX0_camAt.cls = RX0 ∧ yX0_camAt.cls ≠ "java/lang/invoke/MethodHandle" ∧ yX0_camAt.cls ≠ "java/lang/invoke/VarHandle" ∧ (parseMethodDescriptor yX0_camAt.desc).map (fun d => d.parameters.length) = some 1 := by decide +kernel
def FX0_camAt (ns nb : Nat) (σ : Sg) (i0 : Nat) (a1 : Int32) : Option (Option Nat × Sg) :=
  if a1 < 0 then (some (none, σ)) else (if 3 ≤ a1 then (some (none, σ)) else (if (a1 < 0 ∨ 3 ≤ a1.toNatClampNeg) then none else (some (some (3 * i0 + a1.toNatClampNeg), σ))))
set_option maxHeartbeats 4000000 in
set_option maxRecDepth 100000 in
theorem kX0_camAt (l : Launch) (lo : Nat) (g : Gx) (h : Sh) (σ : Sg) (i0 : Nat) (a1 : Int32) (hi0 : i0 < h.2.1) (r : Option Nat) (σ1 : Sg) (hF : FX0_camAt h.1 h.2.1 σ i0 a1 = some (r, σ1)) : MR l yX0_camAt (ws_ yX0_camAt cX0_camAt 2 (some (.object "BirdParlour$Cam"))) 0 0 0 0 lo g h [.ref (h.2.2 6 i0), .int a1] σ (r.map (h.2.2 10)) σ1 := by
  refine ofB (own := RX0) (by decide +kernel) rfl (fun p e s m below meth c C0 hr hlk hlo hK hZ hW hS ls hl => ?_) (Nat.le_of_ble_eq_true rfl)
  have hx := C0.1
  have hb := C0.2.1
  have hl : lv_has ls 2 [(0, .ref (h.2.2 6 i0)), (1, .int a1)] := hl
  unfold FX0_camAt at hF
  refine lv_iload_n hx hb dX0_camAt_0 rfl (lv_at hl 1 rfl) ?_
  refine lv_if_lt (tgt := 22) hx hb dX0_camAt_1 (by decide) (fun c1 => ?_) (fun c1 => ?_)
  · rw [if_pos c1] at hF
    refine lv_null hx hb dX0_camAt_22 ?_
    cases hF
    exact retR (r := none) C0 hr (Or.inl ⟨_, rfl⟩) hlk hW hS dX0_camAt_23
  · rw [if_neg c1] at hF
    refine lv_iload_n hx hb dX0_camAt_4 rfl (lv_at hl 1 rfl) ?_
    refine lv_aload_n hx hb dX0_camAt_5 rfl (lv_at hl 0 rfl) ?_
    refine get6 C0 hK hW i0 (al6 6 hi0 (by decide)) 7 (by decide) wFL_X0_20 rfl rfl dX0_camAt_6 ?_
    refine len9 C0 hK hW i0 hi0 dX0_camAt_9 ?_
    refine lv_icmp_ge (tgt := 22) hx hb dX0_camAt_10 (by decide) (fun c2 => ?_) (fun c2 => ?_)
    · rw [if_pos c2] at hF
      refine lv_null hx hb dX0_camAt_22 ?_
      cases hF
      exact retR (r := none) C0 hr (Or.inl ⟨_, rfl⟩) hlk hW hS dX0_camAt_23
    · rw [if_neg c2] at hF
      refine lv_aload_n hx hb dX0_camAt_13 rfl (lv_at hl 0 rfl) ?_
      refine get6 C0 hK hW i0 (al6 6 hi0 (by decide)) 7 (by decide) wFL_X0_20 rfl rfl dX0_camAt_14 ?_
      refine lv_iload_n hx hb dX0_camAt_17 rfl (lv_at hl 1 rfl) ?_
      obtain ⟨hg, hF⟩ := grd hF
      have hc3 := cam_lt hi0 hg
      refine ld9 C0 hK hW i0 hi0 hg dX0_camAt_18 ?_
      refine lv_goto (tgt := 23) hx hb dX0_camAt_19 (by decide) ?_
      cases hF
      exact retR (r := some (h.2.2 10 (3 * i0 + a1.toNatClampNeg))) C0 hr (Or.inl ⟨_, rfl⟩) hlk hW hS dX0_camAt_23
theorem hdX0_burden : yX0_burden.cls = RX0 ∧ yX0_burden.cls ≠ "java/lang/invoke/MethodHandle" ∧ yX0_burden.cls ≠ "java/lang/invoke/VarHandle" ∧ (parseMethodDescriptor yX0_burden.desc).map (fun d => d.parameters.length) = some 0 := by decide +kernel
def LX0_burden_19 (ns nb : Nat) (j0 : Nat) (v1 : Int32) (j3 : Nat) : Nat → Int32 → Int32 → Sg → Option (Int32 × Sg)
  | 0, _, _, _ => none
  | n + 1, v2, v5, σ => if 3 ≤ v5 then (some (v2, σ)) else (if (v5 < 0 ∨ 3 ≤ v5.toNatClampNeg) then none else ((FX4_at ns nb σ 12 (3 * j3 + v5.toNatClampNeg) v1).bind fun z4 => LX0_burden_19 ns nb j0 v1 j3 n (v2 + z4.1) (v5 + 1) z4.2))
def FX0_burden (ns nb : Nat) (σ : Sg) (i0 : Nat) : Option (Int32 × Sg) :=
  (FX0_placeNow ns nb σ i0).bind fun z1 => (LX0_burden_19 ns nb i0 z1.1 i0 4100 0 0 z1.2).bind fun z5 => some ((z5.2.1 6 i0 1) + (z5.1 / 5), z5.2)
set_option maxHeartbeats 4000000 in
set_option maxRecDepth 100000 in
theorem lX0_burden_19 {p : Program} {l : Launch} {e : Env} {s : State} {m : MethodId} {args : Array Value} {below : List Frame} {meth : Method} {c : Code} {Q : State → Prop} {lo : Nat} {g : Gx} {h : Sh} (C0 : CallFix p m c cX0_burden 7 s args wB RX0) (hlo : lo ≤ s.heap.size) (hK : KW g s) (hZ : ZW lo s s.heap) (j0 : Nat) (v1 : Int32) (j3 : Nat) (hj0 : j0 < h.2.1) (hj3 : j3 < h.2.1) : ∀ (n : Nat) (v2 : Int32) (v5 : Int32) (σ : Sg) (z : (Int32 × Sg)) (hF : LX0_burden_19 h.1 h.2.1 j0 v1 j3 n v2 v5 σ = some z) (H : Heap) (locs : List Loc) (ls : Array Slot) (hW : FW g h (Ax lo) σ H) (hS : va_S (Ax lo) s.heap H locs) (hl : lv_has ls 7 [(0, .ref (h.2.2 6 j0)), (1, .int v1), (2, .int v2), (3, .ref (h.2.2 9 j3)), (4, .int 3), (5, .int v5)]) (kk : ∀ (H : Heap) (locs : List Loc) (ls : Array Slot), FW g h (Ax lo) z.2 H → va_S (Ax lo) s.heap H locs → lv_has ls 7 [(0, .ref (h.2.2 6 j0)), (2, .int z.1)] → W p l e { frames := 2, cells := 0, slots := 0, locals := 42 } s m args below meth c H locs 0 0 Q (F0 m 55 ls [])), W p l e { frames := 2, cells := 0, slots := 0, locals := 42 } s m args below meth c H locs 0 0 Q (F0 m 19 ls []) := by
  have hx := C0.1
  have hb := C0.2.1
  intro n
  induction n with
  | zero =>
    intro v2 v5 σ z hF
    rw [LX0_burden_19] at hF
    cases hF
  | succ n ih =>
    intro v2 v5 σ z hF H locs ls hW hS hl kk
    rw [LX0_burden_19] at hF
    refine lv_iload hx hb dX0_burden_19 (lv_at hl 5 rfl) ?_
    refine lv_iload hx hb dX0_burden_21 (lv_at hl 4 rfl) ?_
    refine lv_icmp_ge (tgt := 55) hx hb dX0_burden_23 (by decide) (fun c2 => ?_) (fun c2 => ?_)
    · rw [if_pos c2] at hF
      cases hF
      exact kk _ _ _ hW hS (lv_sub hl [0, 2] rfl)
    · rw [if_neg c2] at hF
      refine lv_aload_n hx hb dX0_burden_26 rfl (lv_at hl 3 rfl) ?_
      refine lv_iload hx hb dX0_burden_27 (lv_at hl 5 rfl) ?_
      obtain ⟨hg, hF⟩ := grd hF
      have hc3 := cam_lt hj3 hg
      refine ld9 C0 hK hW j3 hj3 hg dX0_burden_29 ?_
      refine lv_astore (lv' := [(6, .ref (h.2.2 10 (3 * j3 + v5.toNatClampNeg))), (0, .ref (h.2.2 6 j0)), (1, .int v1), (2, .int v2), (3, .ref (h.2.2 9 j3)), (4, .int 3), (5, .int v5)]) hx hb dX0_burden_30 hl (by decide) rfl (fun ls hl => ?_)
      refine lv_aload hx hb dX0_burden_32 (lv_at hl 0 rfl) ?_
      refine lv_ifnull hx hb dX0_burden_34 ?_
      refine lv_iload_n hx hb dX0_burden_37 rfl (lv_at hl 3 rfl) ?_
      refine lv_aload hx hb dX0_burden_38 (lv_at hl 0 rfl) ?_
      refine get10 C0 hK hW (3 * j3 + v5.toNatClampNeg) (al10 10 hc3 (by decide)) 1 (by decide) wFL_X0_90 rfl rfl dX0_burden_40 ?_
      refine lv_iload_n hx hb dX0_burden_43 rfl (lv_at hl 2 rfl) ?_
      obtain ⟨z4, hz4, hF⟩ := bnd hF
      refine inI (runN (host := "BirdParlour") C0 hlo hK hZ hW hS (kX4_at l lo g h _ 12 (3 * j3 + v5.toNatClampNeg) v1 (al10 12 hc3 (by decide)) (by decide) _ _ hz4) wCO_X4_at (by decide +kernel) wST_X4_at wIN_X4 hdsX4_at ⟨Nat.le_of_ble_eq_true rfl, Nat.le_of_ble_eq_true rfl⟩ rfl hl.1 rfl (Nat.le_of_ble_eq_true rfl) dX0_burden_44 ⟨Nat.le_of_ble_eq_true rfl, Nat.le_of_ble_eq_true rfl⟩) hS (fun H locs hW hS => ?_)
      refine lv_iadd hx hb dX0_burden_47 ?_
      refine lv_istore_n (lv' := [(2, .int (v2 + z4.1)), (6, .ref (h.2.2 10 (3 * j3 + v5.toNatClampNeg))), (0, .ref (h.2.2 6 j0)), (1, .int v1), (3, .ref (h.2.2 9 j3)), (4, .int 3), (5, .int v5)]) hx hb dX0_burden_48 rfl hl (by decide) rfl (fun ls hl => ?_)
      refine lv_iinc (v := v5 + 1) (lv' := [(5, .int (v5 + 1)), (2, .int (v2 + z4.1)), (6, .ref (h.2.2 10 (3 * j3 + v5.toNatClampNeg))), (0, .ref (h.2.2 6 j0)), (1, .int v1), (3, .ref (h.2.2 9 j3)), (4, .int 3)]) hx hb dX0_burden_49 hl (k := 6) rfl rfl (by decide) rfl (fun ls hl => ?_)
      refine lv_goto (tgt := 19) hx hb dX0_burden_52 (by decide) ?_
      exact ih (v2 + z4.1) (v5 + 1) z4.2 z hF _ _ _ hW hS (lv_sub hl [3, 4, 1, 5, 6, 0] rfl) kk
set_option maxHeartbeats 4000000 in
set_option maxRecDepth 100000 in
theorem kX0_burden (l : Launch) (lo : Nat) (g : Gx) (h : Sh) (σ : Sg) (i0 : Nat) (hi0 : i0 < h.2.1) (r : Int32) (σ1 : Sg) (hF : FX0_burden h.1 h.2.1 σ i0 = some (r, σ1)) : MI l yX0_burden (ws_ yX0_burden cX0_burden 7 (some .int)) 2 42 0 0 lo g h [.ref (h.2.2 6 i0)] σ r σ1 := by
  refine ofB (own := RX0) (by decide +kernel) rfl (fun p e s m below meth c C0 hr hlk hlo hK hZ hW hS ls hl => ?_) (Nat.le_of_ble_eq_true rfl)
  have hx := C0.1
  have hb := C0.2.1
  have hl : lv_has ls 7 [(0, .ref (h.2.2 6 i0))] := hl
  unfold FX0_burden at hF
  refine lv_aload_n hx hb dX0_burden_0 rfl (lv_at hl 0 rfl) ?_
  obtain ⟨z1, hz1, hF⟩ := bnd hF
  refine inI (runV C0 hlo hK hZ hW hS (kX0_placeNow l lo g h _ i0 hi0 _ _ hz1) wCO_X0_placeNow wML_X0_86 wIM_X0_placeNow wSE_X0_X0_placeNow wIN_X0 hdX0_placeNow ⟨Nat.le_of_ble_eq_true rfl, Nat.le_of_ble_eq_true rfl⟩ (recvK hK hW (al6 6 hi0 (by decide)) (ct6 i0) rfl) rfl hl.1 rfl (Nat.le_of_ble_eq_true rfl) dX0_burden_1 ⟨Nat.le_of_ble_eq_true rfl, Nat.le_of_ble_eq_true rfl⟩) hS (fun H locs hW hS => ?_)
  refine lv_istore_n (lv' := [(1, .int z1.1), (0, .ref (h.2.2 6 i0))]) hx hb dX0_burden_4 rfl hl (by decide) rfl (fun ls hl => ?_)
  refine lv_iconst (v := 0) hx hb dX0_burden_5 (by decide) ?_
  refine lv_istore_n (lv' := [(2, .int 0), (1, .int z1.1), (0, .ref (h.2.2 6 i0))]) hx hb dX0_burden_6 rfl hl (by decide) rfl (fun ls hl => ?_)
  refine lv_aload_n hx hb dX0_burden_7 rfl (lv_at hl 2 rfl) ?_
  refine get6 C0 hK hW i0 (al6 6 hi0 (by decide)) 7 (by decide) wFL_X0_20 rfl rfl dX0_burden_8 ?_
  refine lv_astore_n (lv' := [(3, .ref (h.2.2 9 i0)), (2, .int 0), (1, .int z1.1), (0, .ref (h.2.2 6 i0))]) hx hb dX0_burden_11 rfl hl (by decide) rfl (fun ls hl => ?_)
  refine lv_aload_n hx hb dX0_burden_12 rfl (lv_at hl 0 rfl) ?_
  refine len9 C0 hK hW i0 hi0 dX0_burden_13 ?_
  refine lv_istore (lv' := [(4, .int 3), (3, .ref (h.2.2 9 i0)), (2, .int 0), (1, .int z1.1), (0, .ref (h.2.2 6 i0))]) hx hb dX0_burden_14 hl (by decide) rfl (fun ls hl => ?_)
  refine lv_iconst (v := 0) hx hb dX0_burden_16 (by decide) ?_
  refine lv_istore (lv' := [(5, .int 0), (4, .int 3), (3, .ref (h.2.2 9 i0)), (2, .int 0), (1, .int z1.1), (0, .ref (h.2.2 6 i0))]) hx hb dX0_burden_17 hl (by decide) rfl (fun ls hl => ?_)
  obtain ⟨z5, hz5, hF⟩ := bnd hF
  refine lX0_burden_19 C0 hlo hK hZ i0 z1.1 i0 hi0 hi0 _ 0 0 _ z5 hz5 _ _ _ hW hS (lv_sub hl [5, 4, 3, 2, 1, 0] rfl) (fun H locs ls hW hS hl => ?_)
  refine lv_aload_n hx hb dX0_burden_55 rfl (lv_at hl 0 rfl) ?_
  refine get6 C0 hK hW i0 (al6 6 hi0 (by decide)) 1 (by decide) wFL_X0_28 rfl rfl dX0_burden_56 ?_
  refine lv_iload_n hx hb dX0_burden_59 rfl (lv_at hl 1 rfl) ?_
  refine lv_iconst (v := 5) hx hb dX0_burden_60 (by decide) ?_
  refine lv_idiv hx hb dX0_burden_61 (by decide) ?_
  refine lv_iadd hx hb dX0_burden_62 ?_
  cases hF
  exact retI C0 hr hlk hW hS dX0_burden_63
end
section
theorem hdX4_springAt : yX4_springAt.cls = RX4 ∧ yX4_springAt.cls ≠ "java/lang/invoke/MethodHandle" ∧ yX4_springAt.cls ≠ "java/lang/invoke/VarHandle" ∧ (parseMethodDescriptor yX4_springAt.desc).map (fun d => d.parameters.length) = some 1 := by decide +kernel
def FX4_springAt (ns nb : Nat) (σ : Sg) (a1 : Int32) : Option (Option Nat × Sg) :=
  if a1 < 0 then (some (none, σ)) else (if 4 ≤ a1 then (some (none, σ)) else (if (a1 < 0 ∨ 4 ≤ a1.toNatClampNeg) then none else (oc (iO ns a1.toNatClampNeg) (some (none, σ)) (fun i3_ => if i3_ < ns then (some (some i3_, σ)) else none))))
set_option maxHeartbeats 4000000 in
set_option maxRecDepth 100000 in
theorem kX4_springAt (l : Launch) (lo : Nat) (g : Gx) (h : Sh) (σ : Sg) (a1 : Int32)  (r : Option Nat) (σ1 : Sg) (hF : FX4_springAt h.1 h.2.1 σ a1 = some (r, σ1)) : MR l yX4_springAt (ws_ yX4_springAt cX4_springAt 2 (some (.object "BirdParlour$Spring"))) 0 0 0 0 lo g h [.ref (h.2.2 0 0), .int a1] σ (r.map (h.2.2 5)) σ1 := by
  refine ofB (own := RX4) (by decide +kernel) rfl (fun p e s m below meth c C0 hr hlk hlo hK hZ hW hS ls hl => ?_) (Nat.le_of_ble_eq_true rfl)
  have hx := C0.1
  have hb := C0.2.1
  have hl : lv_has ls 2 [(0, .ref (h.2.2 0 0)), (1, .int a1)] := hl
  unfold FX4_springAt at hF
  refine lv_iload_n hx hb dX4_springAt_0 rfl (lv_at hl 1 rfl) ?_
  refine lv_if_lt (tgt := 22) hx hb dX4_springAt_1 (by decide) (fun c1 => ?_) (fun c1 => ?_)
  · rw [if_pos c1] at hF
    refine lv_null hx hb dX4_springAt_22 ?_
    cases hF
    exact retR (r := none) C0 hr (Or.inl ⟨_, rfl⟩) hlk hW hS dX4_springAt_23
  · rw [if_neg c1] at hF
    refine lv_iload_n hx hb dX4_springAt_4 rfl (lv_at hl 1 rfl) ?_
    refine lv_aload_n hx hb dX4_springAt_5 rfl (lv_at hl 0 rfl) ?_
    refine get0 C0 hK hW 0 (al0 h 0 (by decide)) 0 (by decide) wFL_X4_11 rfl rfl dX4_springAt_6 ?_
    refine len1 C0 hK hW dX4_springAt_9 ?_
    refine lv_icmp_ge (tgt := 22) hx hb dX4_springAt_10 (by decide) (fun c2 => ?_) (fun c2 => ?_)
    · rw [if_pos c2] at hF
      refine lv_null hx hb dX4_springAt_22 ?_
      cases hF
      exact retR (r := none) C0 hr (Or.inl ⟨_, rfl⟩) hlk hW hS dX4_springAt_23
    · rw [if_neg c2] at hF
      refine lv_aload_n hx hb dX4_springAt_13 rfl (lv_at hl 0 rfl) ?_
      refine get0 C0 hK hW 0 (al0 h 0 (by decide)) 0 (by decide) wFL_X4_11 rfl rfl dX4_springAt_14 ?_
      refine lv_iload_n hx hb dX4_springAt_17 rfl (lv_at hl 1 rfl) ?_
      obtain ⟨hg, hF⟩ := grd hF
      refine ld1 C0 hK hW hg dX4_springAt_18 ?_
      refine nspl (fun n3 => ?_) (fun i3_ n3 => ?_)
      · rw [n3, oc_n] at hF
        refine lv_goto (tgt := 23) hx hb dX4_springAt_19 (by decide) ?_
        cases hF
        exact retR (r := none) C0 hr (Or.inl ⟨_, rfl⟩) hlk hW hS dX4_springAt_23
      · rw [n3, oc_s] at hF
        obtain ⟨hi3_, hF⟩ := grp hF
        refine lv_goto (tgt := 23) hx hb dX4_springAt_19 (by decide) ?_
        cases hF
        exact retR (r := some (h.2.2 5 i3_)) C0 hr (Or.inl ⟨_, rfl⟩) hlk hW hS dX4_springAt_23
theorem hdX4_birdAt : yX4_birdAt.cls = RX4 ∧ yX4_birdAt.cls ≠ "java/lang/invoke/MethodHandle" ∧ yX4_birdAt.cls ≠ "java/lang/invoke/VarHandle" ∧ (parseMethodDescriptor yX4_birdAt.desc).map (fun d => d.parameters.length) = some 1 := by decide +kernel
def FX4_birdAt (ns nb : Nat) (σ : Sg) (a1 : Int32) : Option (Option Nat × Sg) :=
  if a1 < 0 then (some (none, σ)) else (if 8 ≤ a1 then (some (none, σ)) else (if (a1 < 0 ∨ 8 ≤ a1.toNatClampNeg) then none else (oc (iO nb a1.toNatClampNeg) (some (none, σ)) (fun i3_ => if i3_ < nb then (some (some i3_, σ)) else none))))
set_option maxHeartbeats 4000000 in
set_option maxRecDepth 100000 in
theorem kX4_birdAt (l : Launch) (lo : Nat) (g : Gx) (h : Sh) (σ : Sg) (a1 : Int32)  (r : Option Nat) (σ1 : Sg) (hF : FX4_birdAt h.1 h.2.1 σ a1 = some (r, σ1)) : MR l yX4_birdAt (ws_ yX4_birdAt cX4_birdAt 2 (some (.object "BirdParlour$Bird"))) 0 0 0 0 lo g h [.ref (h.2.2 0 0), .int a1] σ (r.map (h.2.2 6)) σ1 := by
  refine ofB (own := RX4) (by decide +kernel) rfl (fun p e s m below meth c C0 hr hlk hlo hK hZ hW hS ls hl => ?_) (Nat.le_of_ble_eq_true rfl)
  have hx := C0.1
  have hb := C0.2.1
  have hl : lv_has ls 2 [(0, .ref (h.2.2 0 0)), (1, .int a1)] := hl
  unfold FX4_birdAt at hF
  refine lv_iload_n hx hb dX4_birdAt_0 rfl (lv_at hl 1 rfl) ?_
  refine lv_if_lt (tgt := 22) hx hb dX4_birdAt_1 (by decide) (fun c1 => ?_) (fun c1 => ?_)
  · rw [if_pos c1] at hF
    refine lv_null hx hb dX4_birdAt_22 ?_
    cases hF
    exact retR (r := none) C0 hr (Or.inl ⟨_, rfl⟩) hlk hW hS dX4_birdAt_23
  · rw [if_neg c1] at hF
    refine lv_iload_n hx hb dX4_birdAt_4 rfl (lv_at hl 1 rfl) ?_
    refine lv_aload_n hx hb dX4_birdAt_5 rfl (lv_at hl 0 rfl) ?_
    refine get0 C0 hK hW 0 (al0 h 0 (by decide)) 1 (by decide) wFL_X4_17 rfl rfl dX4_birdAt_6 ?_
    refine len2 C0 hK hW dX4_birdAt_9 ?_
    refine lv_icmp_ge (tgt := 22) hx hb dX4_birdAt_10 (by decide) (fun c2 => ?_) (fun c2 => ?_)
    · rw [if_pos c2] at hF
      refine lv_null hx hb dX4_birdAt_22 ?_
      cases hF
      exact retR (r := none) C0 hr (Or.inl ⟨_, rfl⟩) hlk hW hS dX4_birdAt_23
    · rw [if_neg c2] at hF
      refine lv_aload_n hx hb dX4_birdAt_13 rfl (lv_at hl 0 rfl) ?_
      refine get0 C0 hK hW 0 (al0 h 0 (by decide)) 1 (by decide) wFL_X4_17 rfl rfl dX4_birdAt_14 ?_
      refine lv_iload_n hx hb dX4_birdAt_17 rfl (lv_at hl 1 rfl) ?_
      obtain ⟨hg, hF⟩ := grd hF
      refine ld2 C0 hK hW hg dX4_birdAt_18 ?_
      refine nspl (fun n3 => ?_) (fun i3_ n3 => ?_)
      · rw [n3, oc_n] at hF
        refine lv_goto (tgt := 23) hx hb dX4_birdAt_19 (by decide) ?_
        cases hF
        exact retR (r := none) C0 hr (Or.inl ⟨_, rfl⟩) hlk hW hS dX4_birdAt_23
      · rw [n3, oc_s] at hF
        obtain ⟨hi3_, hF⟩ := grp hF
        refine lv_goto (tgt := 23) hx hb dX4_birdAt_19 (by decide) ?_
        cases hF
        exact retR (r := some (h.2.2 6 i3_)) C0 hr (Or.inl ⟨_, rfl⟩) hlk hW hS dX4_birdAt_23
theorem hdX4_birdsDrivenBy : yX4_birdsDrivenBy.cls = RX4 ∧ yX4_birdsDrivenBy.cls ≠ "java/lang/invoke/MethodHandle" ∧ yX4_birdsDrivenBy.cls ≠ "java/lang/invoke/VarHandle" ∧ (parseMethodDescriptor yX4_birdsDrivenBy.desc).map (fun d => d.parameters.length) = some 1 := by decide +kernel
def LX4_birdsDrivenBy_14 (ns nb : Nat) (v1 : Int32) : Nat → Int32 → Int32 → Sg → Option (Int32 × Sg)
  | 0, _, _, _ => none
  | n + 1, v2, v5, σ => if 8 ≤ v5 then (some (v2, σ)) else (if (v5 < 0 ∨ 8 ≤ v5.toNatClampNeg) then none else (oc (iO nb v5.toNatClampNeg) (LX4_birdsDrivenBy_14 ns nb v1 n v2 (v5 + 1) σ) (fun i2_ => if i2_ < nb then ((FX0_isDrivenBy ns nb σ i2_ v1).bind fun z3 => if z3.1 = 0 then (LX4_birdsDrivenBy_14 ns nb v1 n v2 (v5 + 1) z3.2) else (LX4_birdsDrivenBy_14 ns nb v1 n (v2 + 1) (v5 + 1) z3.2)) else none)))
def FX4_birdsDrivenBy (ns nb : Nat) (σ : Sg) (a1 : Int32) : Option (Int32 × Sg) :=
  (LX4_birdsDrivenBy_14 ns nb a1 4100 0 0 σ).bind fun z5 => some (z5.1, z5.2)
set_option maxHeartbeats 4000000 in
set_option maxRecDepth 100000 in
theorem lX4_birdsDrivenBy_14 {p : Program} {l : Launch} {e : Env} {s : State} {m : MethodId} {args : Array Value} {below : List Frame} {meth : Method} {c : Code} {Q : State → Prop} {lo : Nat} {g : Gx} {h : Sh} (C0 : CallFix p m c cX4_birdsDrivenBy 7 s args wB RX4) (hlo : lo ≤ s.heap.size) (hK : KW g s) (hZ : ZW lo s s.heap) (v1 : Int32)  : ∀ (n : Nat) (v2 : Int32) (v5 : Int32) (σ : Sg) (z : (Int32 × Sg)) (hF : LX4_birdsDrivenBy_14 h.1 h.2.1 v1 n v2 v5 σ = some z) (H : Heap) (locs : List Loc) (ls : Array Slot) (hW : FW g h (Ax lo) σ H) (hS : va_S (Ax lo) s.heap H locs) (hl : lv_has ls 7 [(1, .int v1), (2, .int v2), (3, .ref (h.2.2 2 0)), (4, .int 8), (5, .int v5)]) (kk : ∀ (H : Heap) (locs : List Loc) (ls : Array Slot), FW g h (Ax lo) z.2 H → va_S (Ax lo) s.heap H locs → lv_has ls 7 [(2, .int z.1)] → W p l e { frames := 1, cells := 0, slots := 0, locals := 21 } s m args below meth c H locs 0 0 Q (F0 m 50 ls [])), W p l e { frames := 1, cells := 0, slots := 0, locals := 21 } s m args below meth c H locs 0 0 Q (F0 m 14 ls []) := by
  have hx := C0.1
  have hb := C0.2.1
  intro n
  induction n with
  | zero =>
    intro v2 v5 σ z hF
    rw [LX4_birdsDrivenBy_14] at hF
    cases hF
  | succ n ih =>
    intro v2 v5 σ z hF H locs ls hW hS hl kk
    rw [LX4_birdsDrivenBy_14] at hF
    refine lv_iload hx hb dX4_birdsDrivenBy_14 (lv_at hl 4 rfl) ?_
    refine lv_iload hx hb dX4_birdsDrivenBy_16 (lv_at hl 3 rfl) ?_
    refine lv_icmp_ge (tgt := 50) hx hb dX4_birdsDrivenBy_18 (by decide) (fun c1 => ?_) (fun c1 => ?_)
    · rw [if_pos c1] at hF
      cases hF
      exact kk _ _ _ hW hS (lv_sub hl [1] rfl)
    · rw [if_neg c1] at hF
      refine lv_aload_n hx hb dX4_birdsDrivenBy_21 rfl (lv_at hl 2 rfl) ?_
      refine lv_iload hx hb dX4_birdsDrivenBy_22 (lv_at hl 4 rfl) ?_
      obtain ⟨hg, hF⟩ := grd hF
      refine ld2 C0 hK hW hg dX4_birdsDrivenBy_24 ?_
      refine nspl (fun n2 => ?_) (fun i2_ n2 => ?_)
      · rw [n2, oc_n] at hF
        refine lv_astoreN (lv' := [(6, .null), (1, .int v1), (2, .int v2), (3, .ref (h.2.2 2 0)), (4, .int 8), (5, .int v5)]) hx hb dX4_birdsDrivenBy_25 hl (by decide) rfl (fun ls hl => ?_)
        refine lv_aloadN hx hb dX4_birdsDrivenBy_27 (lv_at hl 0 rfl) ?_
        refine lv_ifnullN (tgt := 44) hx hb dX4_birdsDrivenBy_29 (by decide) ?_
        refine lv_iinc (v := v5 + 1) (lv' := [(5, .int (v5 + 1)), (6, .null), (1, .int v1), (2, .int v2), (3, .ref (h.2.2 2 0)), (4, .int 8)]) hx hb dX4_birdsDrivenBy_44 hl (k := 5) rfl rfl (by decide) rfl (fun ls hl => ?_)
        refine lv_goto (tgt := 14) hx hb dX4_birdsDrivenBy_47 (by decide) ?_
        exact ih v2 (v5 + 1) σ z hF _ _ _ hW hS (lv_sub hl [2, 3, 4, 5, 0] rfl) kk
      · rw [n2, oc_s] at hF
        obtain ⟨hi2_, hF⟩ := grp hF
        refine lv_astore (lv' := [(6, .ref (h.2.2 6 i2_)), (1, .int v1), (2, .int v2), (3, .ref (h.2.2 2 0)), (4, .int 8), (5, .int v5)]) hx hb dX4_birdsDrivenBy_25 hl (by decide) rfl (fun ls hl => ?_)
        refine lv_aload hx hb dX4_birdsDrivenBy_27 (lv_at hl 0 rfl) ?_
        refine lv_ifnull hx hb dX4_birdsDrivenBy_29 ?_
        refine lv_aload hx hb dX4_birdsDrivenBy_32 (lv_at hl 0 rfl) ?_
        refine lv_iload_n hx hb dX4_birdsDrivenBy_34 rfl (lv_at hl 1 rfl) ?_
        obtain ⟨z3, hz3, hF⟩ := bnd hF
        refine inI (runV C0 hlo hK hZ hW hS (kX0_isDrivenBy l lo g h _ i2_ v1 hi2_ _ _ hz3) wCO_X0_isDrivenBy wML_X4_314 wIM_X0_isDrivenBy wSE_X0_X0_isDrivenBy wIN_X0 hdX0_isDrivenBy ⟨Nat.le_of_ble_eq_true rfl, Nat.le_of_ble_eq_true rfl⟩ (recvK hK hW (al6 6 hi2_ (by decide)) (ct6 i2_) rfl) rfl hl.1 rfl (Nat.le_of_ble_eq_true rfl) dX4_birdsDrivenBy_35 ⟨Nat.le_of_ble_eq_true rfl, Nat.le_of_ble_eq_true rfl⟩) hS (fun H locs hW hS => ?_)
        refine lv_if_eq (tgt := 44) hx hb dX4_birdsDrivenBy_38 (by decide) (fun c4 => ?_) (fun c4 => ?_)
        · rw [if_pos c4] at hF
          refine lv_iinc (v := v5 + 1) (lv' := [(5, .int (v5 + 1)), (6, .ref (h.2.2 6 i2_)), (1, .int v1), (2, .int v2), (3, .ref (h.2.2 2 0)), (4, .int 8)]) hx hb dX4_birdsDrivenBy_44 hl (k := 5) rfl rfl (by decide) rfl (fun ls hl => ?_)
          refine lv_goto (tgt := 14) hx hb dX4_birdsDrivenBy_47 (by decide) ?_
          exact ih v2 (v5 + 1) z3.2 z hF _ _ _ hW hS (lv_sub hl [2, 3, 4, 5, 0] rfl) kk
        · rw [if_neg c4] at hF
          refine lv_iinc (v := v2 + 1) (lv' := [(2, .int (v2 + 1)), (6, .ref (h.2.2 6 i2_)), (1, .int v1), (3, .ref (h.2.2 2 0)), (4, .int 8), (5, .int v5)]) hx hb dX4_birdsDrivenBy_41 hl (k := 2) rfl rfl (by decide) rfl (fun ls hl => ?_)
          refine lv_iinc (v := v5 + 1) (lv' := [(5, .int (v5 + 1)), (2, .int (v2 + 1)), (6, .ref (h.2.2 6 i2_)), (1, .int v1), (3, .ref (h.2.2 2 0)), (4, .int 8)]) hx hb dX4_birdsDrivenBy_44 hl (k := 5) rfl rfl (by decide) rfl (fun ls hl => ?_)
          refine lv_goto (tgt := 14) hx hb dX4_birdsDrivenBy_47 (by decide) ?_
          exact ih (v2 + 1) (v5 + 1) z3.2 z hF _ _ _ hW hS (lv_sub hl [3, 1, 4, 5, 0] rfl) kk
set_option maxHeartbeats 4000000 in
set_option maxRecDepth 100000 in
theorem kX4_birdsDrivenBy (l : Launch) (lo : Nat) (g : Gx) (h : Sh) (σ : Sg) (a1 : Int32)  (r : Int32) (σ1 : Sg) (hF : FX4_birdsDrivenBy h.1 h.2.1 σ a1 = some (r, σ1)) : MI l yX4_birdsDrivenBy (ws_ yX4_birdsDrivenBy cX4_birdsDrivenBy 7 (some .int)) 1 21 0 0 lo g h [.ref (h.2.2 0 0), .int a1] σ r σ1 := by
  refine ofB (own := RX4) (by decide +kernel) rfl (fun p e s m below meth c C0 hr hlk hlo hK hZ hW hS ls hl => ?_) (Nat.le_of_ble_eq_true rfl)
  have hx := C0.1
  have hb := C0.2.1
  have hl : lv_has ls 7 [(0, .ref (h.2.2 0 0)), (1, .int a1)] := hl
  unfold FX4_birdsDrivenBy at hF
  refine lv_iconst (v := 0) hx hb dX4_birdsDrivenBy_0 (by decide) ?_
  refine lv_istore_n (lv' := [(2, .int 0), (0, .ref (h.2.2 0 0)), (1, .int a1)]) hx hb dX4_birdsDrivenBy_1 rfl hl (by decide) rfl (fun ls hl => ?_)
  refine lv_aload_n hx hb dX4_birdsDrivenBy_2 rfl (lv_at hl 1 rfl) ?_
  refine get0 C0 hK hW 0 (al0 h 0 (by decide)) 1 (by decide) wFL_X4_17 rfl rfl dX4_birdsDrivenBy_3 ?_
  refine lv_astore_n (lv' := [(3, .ref (h.2.2 2 0)), (2, .int 0), (0, .ref (h.2.2 0 0)), (1, .int a1)]) hx hb dX4_birdsDrivenBy_6 rfl hl (by decide) rfl (fun ls hl => ?_)
  refine lv_aload_n hx hb dX4_birdsDrivenBy_7 rfl (lv_at hl 0 rfl) ?_
  refine len2 C0 hK hW dX4_birdsDrivenBy_8 ?_
  refine lv_istore (lv' := [(4, .int 8), (3, .ref (h.2.2 2 0)), (2, .int 0), (0, .ref (h.2.2 0 0)), (1, .int a1)]) hx hb dX4_birdsDrivenBy_9 hl (by decide) rfl (fun ls hl => ?_)
  refine lv_iconst (v := 0) hx hb dX4_birdsDrivenBy_11 (by decide) ?_
  refine lv_istore (lv' := [(5, .int 0), (4, .int 8), (3, .ref (h.2.2 2 0)), (2, .int 0), (0, .ref (h.2.2 0 0)), (1, .int a1)]) hx hb dX4_birdsDrivenBy_12 hl (by decide) rfl (fun ls hl => ?_)
  obtain ⟨z5, hz5, hF⟩ := bnd hF
  refine lX4_birdsDrivenBy_14 C0 hlo hK hZ a1  _ 0 0 _ z5 hz5 _ _ _ hW hS (lv_sub hl [5, 3, 2, 1, 0] rfl) (fun H locs ls hW hS hl => ?_)
  refine lv_iload_n hx hb dX4_birdsDrivenBy_50 rfl (lv_at hl 0 rfl) ?_
  cases hF
  exact retI C0 hr hlk hW hS dX4_birdsDrivenBy_51
theorem hdX4_loadOn : yX4_loadOn.cls = RX4 ∧ yX4_loadOn.cls ≠ "java/lang/invoke/MethodHandle" ∧ yX4_loadOn.cls ≠ "java/lang/invoke/VarHandle" ∧ (parseMethodDescriptor yX4_loadOn.desc).map (fun d => d.parameters.length) = some 1 := by decide +kernel
def LX4_loadOn_15 (ns nb : Nat) (v1 : Int32) : Nat → Int32 → Int32 → Sg → Option (Int32 × Sg)
  | 0, _, _, _ => none
  | n + 1, v2, v5, σ => if 8 ≤ v5 then (some (v2, σ)) else (if (v5 < 0 ∨ 8 ≤ v5.toNatClampNeg) then none else (oc (iO nb v5.toNatClampNeg) (LX4_loadOn_15 ns nb v1 n v2 (v5 + 1) σ) (fun i2_ => if i2_ < nb then ((FX0_isDrivenBy ns nb σ i2_ v1).bind fun z3 => if z3.1 = 0 then (LX4_loadOn_15 ns nb v1 n v2 (v5 + 1) z3.2) else ((FX0_burden ns nb z3.2 i2_).bind fun z5 => LX4_loadOn_15 ns nb v1 n (v2 + z5.1) (v5 + 1) z5.2)) else none)))
def FX4_loadOn (ns nb : Nat) (σ : Sg) (a1 : Int32) : Option (Int32 × Sg) :=
  (LX4_loadOn_15 ns nb a1 4100 10 0 σ).bind fun z6 => some (z6.1, z6.2)
set_option maxHeartbeats 4000000 in
set_option maxRecDepth 100000 in
theorem lX4_loadOn_15 {p : Program} {l : Launch} {e : Env} {s : State} {m : MethodId} {args : Array Value} {below : List Frame} {meth : Method} {c : Code} {Q : State → Prop} {lo : Nat} {g : Gx} {h : Sh} (C0 : CallFix p m c cX4_loadOn 7 s args wB RX4) (hlo : lo ≤ s.heap.size) (hK : KW g s) (hZ : ZW lo s s.heap) (v1 : Int32)  : ∀ (n : Nat) (v2 : Int32) (v5 : Int32) (σ : Sg) (z : (Int32 × Sg)) (hF : LX4_loadOn_15 h.1 h.2.1 v1 n v2 v5 σ = some z) (H : Heap) (locs : List Loc) (ls : Array Slot) (hW : FW g h (Ax lo) σ H) (hS : va_S (Ax lo) s.heap H locs) (hl : lv_has ls 7 [(1, .int v1), (2, .int v2), (3, .ref (h.2.2 2 0)), (4, .int 8), (5, .int v5)]) (kk : ∀ (H : Heap) (locs : List Loc) (ls : Array Slot), FW g h (Ax lo) z.2 H → va_S (Ax lo) s.heap H locs → lv_has ls 7 [(2, .int z.1)] → W p l e { frames := 3, cells := 0, slots := 0, locals := 68 } s m args below meth c H locs 0 0 Q (F0 m 56 ls [])), W p l e { frames := 3, cells := 0, slots := 0, locals := 68 } s m args below meth c H locs 0 0 Q (F0 m 15 ls []) := by
  have hx := C0.1
  have hb := C0.2.1
  intro n
  induction n with
  | zero =>
    intro v2 v5 σ z hF
    rw [LX4_loadOn_15] at hF
    cases hF
  | succ n ih =>
    intro v2 v5 σ z hF H locs ls hW hS hl kk
    rw [LX4_loadOn_15] at hF
    refine lv_iload hx hb dX4_loadOn_15 (lv_at hl 4 rfl) ?_
    refine lv_iload hx hb dX4_loadOn_17 (lv_at hl 3 rfl) ?_
    refine lv_icmp_ge (tgt := 56) hx hb dX4_loadOn_19 (by decide) (fun c1 => ?_) (fun c1 => ?_)
    · rw [if_pos c1] at hF
      cases hF
      exact kk _ _ _ hW hS (lv_sub hl [1] rfl)
    · rw [if_neg c1] at hF
      refine lv_aload_n hx hb dX4_loadOn_22 rfl (lv_at hl 2 rfl) ?_
      refine lv_iload hx hb dX4_loadOn_23 (lv_at hl 4 rfl) ?_
      obtain ⟨hg, hF⟩ := grd hF
      refine ld2 C0 hK hW hg dX4_loadOn_25 ?_
      refine nspl (fun n2 => ?_) (fun i2_ n2 => ?_)
      · rw [n2, oc_n] at hF
        refine lv_astoreN (lv' := [(6, .null), (1, .int v1), (2, .int v2), (3, .ref (h.2.2 2 0)), (4, .int 8), (5, .int v5)]) hx hb dX4_loadOn_26 hl (by decide) rfl (fun ls hl => ?_)
        refine lv_aloadN hx hb dX4_loadOn_28 (lv_at hl 0 rfl) ?_
        refine lv_ifnullN (tgt := 50) hx hb dX4_loadOn_30 (by decide) ?_
        refine lv_iinc (v := v5 + 1) (lv' := [(5, .int (v5 + 1)), (6, .null), (1, .int v1), (2, .int v2), (3, .ref (h.2.2 2 0)), (4, .int 8)]) hx hb dX4_loadOn_50 hl (k := 5) rfl rfl (by decide) rfl (fun ls hl => ?_)
        refine lv_goto (tgt := 15) hx hb dX4_loadOn_53 (by decide) ?_
        exact ih v2 (v5 + 1) σ z hF _ _ _ hW hS (lv_sub hl [2, 3, 4, 5, 0] rfl) kk
      · rw [n2, oc_s] at hF
        obtain ⟨hi2_, hF⟩ := grp hF
        refine lv_astore (lv' := [(6, .ref (h.2.2 6 i2_)), (1, .int v1), (2, .int v2), (3, .ref (h.2.2 2 0)), (4, .int 8), (5, .int v5)]) hx hb dX4_loadOn_26 hl (by decide) rfl (fun ls hl => ?_)
        refine lv_aload hx hb dX4_loadOn_28 (lv_at hl 0 rfl) ?_
        refine lv_ifnull hx hb dX4_loadOn_30 ?_
        refine lv_aload hx hb dX4_loadOn_33 (lv_at hl 0 rfl) ?_
        refine lv_iload_n hx hb dX4_loadOn_35 rfl (lv_at hl 1 rfl) ?_
        obtain ⟨z3, hz3, hF⟩ := bnd hF
        refine inI (runV C0 hlo hK hZ hW hS (kX0_isDrivenBy l lo g h _ i2_ v1 hi2_ _ _ hz3) wCO_X0_isDrivenBy wML_X4_314 wIM_X0_isDrivenBy wSE_X0_X0_isDrivenBy wIN_X0 hdX0_isDrivenBy ⟨Nat.le_of_ble_eq_true rfl, Nat.le_of_ble_eq_true rfl⟩ (recvK hK hW (al6 6 hi2_ (by decide)) (ct6 i2_) rfl) rfl hl.1 rfl (Nat.le_of_ble_eq_true rfl) dX4_loadOn_36 ⟨Nat.le_of_ble_eq_true rfl, Nat.le_of_ble_eq_true rfl⟩) hS (fun H locs hW hS => ?_)
        refine lv_if_eq (tgt := 50) hx hb dX4_loadOn_39 (by decide) (fun c4 => ?_) (fun c4 => ?_)
        · rw [if_pos c4] at hF
          refine lv_iinc (v := v5 + 1) (lv' := [(5, .int (v5 + 1)), (6, .ref (h.2.2 6 i2_)), (1, .int v1), (2, .int v2), (3, .ref (h.2.2 2 0)), (4, .int 8)]) hx hb dX4_loadOn_50 hl (k := 5) rfl rfl (by decide) rfl (fun ls hl => ?_)
          refine lv_goto (tgt := 15) hx hb dX4_loadOn_53 (by decide) ?_
          exact ih v2 (v5 + 1) z3.2 z hF _ _ _ hW hS (lv_sub hl [2, 3, 4, 5, 0] rfl) kk
        · rw [if_neg c4] at hF
          refine lv_iload_n hx hb dX4_loadOn_42 rfl (lv_at hl 2 rfl) ?_
          refine lv_aload hx hb dX4_loadOn_43 (lv_at hl 0 rfl) ?_
          obtain ⟨z5, hz5, hF⟩ := bnd hF
          refine inI (runV C0 hlo hK hZ hW hS (kX0_burden l lo g h _ i2_ hi2_ _ _ hz5) wCO_X0_burden wML_X4_345 wIM_X0_burden wSE_X0_X0_burden wIN_X0 hdX0_burden ⟨Nat.le_of_ble_eq_true rfl, Nat.le_of_ble_eq_true rfl⟩ (recvK hK hW (al6 6 hi2_ (by decide)) (ct6 i2_) rfl) rfl hl.1 rfl (Nat.le_of_ble_eq_true rfl) dX4_loadOn_45 ⟨Nat.le_of_ble_eq_true rfl, Nat.le_of_ble_eq_true rfl⟩) hS (fun H locs hW hS => ?_)
          refine lv_iadd hx hb dX4_loadOn_48 ?_
          refine lv_istore_n (lv' := [(2, .int (v2 + z5.1)), (6, .ref (h.2.2 6 i2_)), (1, .int v1), (3, .ref (h.2.2 2 0)), (4, .int 8), (5, .int v5)]) hx hb dX4_loadOn_49 rfl hl (by decide) rfl (fun ls hl => ?_)
          refine lv_iinc (v := v5 + 1) (lv' := [(5, .int (v5 + 1)), (2, .int (v2 + z5.1)), (6, .ref (h.2.2 6 i2_)), (1, .int v1), (3, .ref (h.2.2 2 0)), (4, .int 8)]) hx hb dX4_loadOn_50 hl (k := 5) rfl rfl (by decide) rfl (fun ls hl => ?_)
          refine lv_goto (tgt := 15) hx hb dX4_loadOn_53 (by decide) ?_
          exact ih (v2 + z5.1) (v5 + 1) z5.2 z hF _ _ _ hW hS (lv_sub hl [3, 1, 4, 5, 0] rfl) kk
set_option maxHeartbeats 4000000 in
set_option maxRecDepth 100000 in
theorem kX4_loadOn (l : Launch) (lo : Nat) (g : Gx) (h : Sh) (σ : Sg) (a1 : Int32)  (r : Int32) (σ1 : Sg) (hF : FX4_loadOn h.1 h.2.1 σ a1 = some (r, σ1)) : MI l yX4_loadOn (ws_ yX4_loadOn cX4_loadOn 7 (some .int)) 3 68 0 0 lo g h [.ref (h.2.2 0 0), .int a1] σ r σ1 := by
  refine ofB (own := RX4) (by decide +kernel) rfl (fun p e s m below meth c C0 hr hlk hlo hK hZ hW hS ls hl => ?_) (Nat.le_of_ble_eq_true rfl)
  have hx := C0.1
  have hb := C0.2.1
  have hl : lv_has ls 7 [(0, .ref (h.2.2 0 0)), (1, .int a1)] := hl
  unfold FX4_loadOn at hF
  refine lv_bipush (v := 10) hx hb dX4_loadOn_0 (by decide) ?_
  refine lv_istore_n (lv' := [(2, .int 10), (0, .ref (h.2.2 0 0)), (1, .int a1)]) hx hb dX4_loadOn_2 rfl hl (by decide) rfl (fun ls hl => ?_)
  refine lv_aload_n hx hb dX4_loadOn_3 rfl (lv_at hl 1 rfl) ?_
  refine get0 C0 hK hW 0 (al0 h 0 (by decide)) 1 (by decide) wFL_X4_17 rfl rfl dX4_loadOn_4 ?_
  refine lv_astore_n (lv' := [(3, .ref (h.2.2 2 0)), (2, .int 10), (0, .ref (h.2.2 0 0)), (1, .int a1)]) hx hb dX4_loadOn_7 rfl hl (by decide) rfl (fun ls hl => ?_)
  refine lv_aload_n hx hb dX4_loadOn_8 rfl (lv_at hl 0 rfl) ?_
  refine len2 C0 hK hW dX4_loadOn_9 ?_
  refine lv_istore (lv' := [(4, .int 8), (3, .ref (h.2.2 2 0)), (2, .int 10), (0, .ref (h.2.2 0 0)), (1, .int a1)]) hx hb dX4_loadOn_10 hl (by decide) rfl (fun ls hl => ?_)
  refine lv_iconst (v := 0) hx hb dX4_loadOn_12 (by decide) ?_
  refine lv_istore (lv' := [(5, .int 0), (4, .int 8), (3, .ref (h.2.2 2 0)), (2, .int 10), (0, .ref (h.2.2 0 0)), (1, .int a1)]) hx hb dX4_loadOn_13 hl (by decide) rfl (fun ls hl => ?_)
  obtain ⟨z6, hz6, hF⟩ := bnd hF
  refine lX4_loadOn_15 C0 hlo hK hZ a1  _ 10 0 _ z6 hz6 _ _ _ hW hS (lv_sub hl [5, 3, 2, 1, 0] rfl) (fun H locs ls hW hS hl => ?_)
  refine lv_iload_n hx hb dX4_loadOn_56 rfl (lv_at hl 0 rfl) ?_
  cases hF
  exact retI C0 hr hlk hW hS dX4_loadOn_57
theorem hdX4_heldByAll : yX4_heldByAll.cls = RX4 ∧ yX4_heldByAll.cls ≠ "java/lang/invoke/MethodHandle" ∧ yX4_heldByAll.cls ≠ "java/lang/invoke/VarHandle" ∧ (parseMethodDescriptor yX4_heldByAll.desc).map (fun d => d.parameters.length) = some 0 := by decide +kernel
def LX4_heldByAll_13 (ns nb : Nat) : Nat → Int32 → Int32 → Sg → Option (Int32 × Sg)
  | 0, _, _, _ => none
  | n + 1, v1, v4, σ => if 4 ≤ v4 then (some (v1, σ)) else (if (v4 < 0 ∨ 4 ≤ v4.toNatClampNeg) then none else (oc (iO ns v4.toNatClampNeg) (LX4_heldByAll_13 ns nb  n v1 (v4 + 1) σ) (fun i2_ => if i2_ < ns then (LX4_heldByAll_13 ns nb  n (v1 + (σ.1 5 i2_ 1)) (v4 + 1) σ) else none)))
def FX4_heldByAll (ns nb : Nat) (σ : Sg)  : Option (Int32 × Sg) :=
  (LX4_heldByAll_13 ns nb  4100 0 0 σ).bind fun z3 => some (z3.1, z3.2)
set_option maxHeartbeats 4000000 in
set_option maxRecDepth 100000 in
theorem lX4_heldByAll_13 {p : Program} {l : Launch} {e : Env} {s : State} {m : MethodId} {args : Array Value} {below : List Frame} {meth : Method} {c : Code} {Q : State → Prop} {lo : Nat} {g : Gx} {h : Sh} (C0 : CallFix p m c cX4_heldByAll 6 s args wB RX4) (hlo : lo ≤ s.heap.size) (hK : KW g s) (hZ : ZW lo s s.heap)   : ∀ (n : Nat) (v1 : Int32) (v4 : Int32) (σ : Sg) (z : (Int32 × Sg)) (hF : LX4_heldByAll_13 h.1 h.2.1  n v1 v4 σ = some z) (H : Heap) (locs : List Loc) (ls : Array Slot) (hW : FW g h (Ax lo) σ H) (hS : va_S (Ax lo) s.heap H locs) (hl : lv_has ls 6 [(1, .int v1), (2, .ref (h.2.2 1 0)), (3, .int 4), (4, .int v4)]) (kk : ∀ (H : Heap) (locs : List Loc) (ls : Array Slot), FW g h (Ax lo) z.2 H → va_S (Ax lo) s.heap H locs → lv_has ls 6 [(1, .int z.1)] → W p l e { frames := 0, cells := 0, slots := 0, locals := 0 } s m args below meth c H locs 0 0 Q (F0 m 44 ls [])), W p l e { frames := 0, cells := 0, slots := 0, locals := 0 } s m args below meth c H locs 0 0 Q (F0 m 13 ls []) := by
  have hx := C0.1
  have hb := C0.2.1
  intro n
  induction n with
  | zero =>
    intro v1 v4 σ z hF
    rw [LX4_heldByAll_13] at hF
    cases hF
  | succ n ih =>
    intro v1 v4 σ z hF H locs ls hW hS hl kk
    rw [LX4_heldByAll_13] at hF
    refine lv_iload hx hb dX4_heldByAll_13 (lv_at hl 3 rfl) ?_
    refine lv_iload_n hx hb dX4_heldByAll_15 rfl (lv_at hl 2 rfl) ?_
    refine lv_icmp_ge (tgt := 44) hx hb dX4_heldByAll_16 (by decide) (fun c1 => ?_) (fun c1 => ?_)
    · rw [if_pos c1] at hF
      cases hF
      exact kk _ _ _ hW hS (lv_sub hl [0] rfl)
    · rw [if_neg c1] at hF
      refine lv_aload_n hx hb dX4_heldByAll_19 rfl (lv_at hl 1 rfl) ?_
      refine lv_iload hx hb dX4_heldByAll_20 (lv_at hl 3 rfl) ?_
      obtain ⟨hg, hF⟩ := grd hF
      refine ld1 C0 hK hW hg dX4_heldByAll_22 ?_
      refine nspl (fun n2 => ?_) (fun i2_ n2 => ?_)
      · rw [n2, oc_n] at hF
        refine lv_astoreN (lv' := [(5, .null), (1, .int v1), (2, .ref (h.2.2 1 0)), (3, .int 4), (4, .int v4)]) hx hb dX4_heldByAll_23 hl (by decide) rfl (fun ls hl => ?_)
        refine lv_aloadN hx hb dX4_heldByAll_25 (lv_at hl 0 rfl) ?_
        refine lv_ifnullN (tgt := 38) hx hb dX4_heldByAll_27 (by decide) ?_
        refine lv_iinc (v := v4 + 1) (lv' := [(4, .int (v4 + 1)), (5, .null), (1, .int v1), (2, .ref (h.2.2 1 0)), (3, .int 4)]) hx hb dX4_heldByAll_38 hl (k := 4) rfl rfl (by decide) rfl (fun ls hl => ?_)
        refine lv_goto (tgt := 13) hx hb dX4_heldByAll_41 (by decide) ?_
        exact ih v1 (v4 + 1) σ z hF _ _ _ hW hS (lv_sub hl [2, 3, 4, 0] rfl) kk
      · rw [n2, oc_s] at hF
        obtain ⟨hi2_, hF⟩ := grp hF
        refine lv_astore (lv' := [(5, .ref (h.2.2 5 i2_)), (1, .int v1), (2, .ref (h.2.2 1 0)), (3, .int 4), (4, .int v4)]) hx hb dX4_heldByAll_23 hl (by decide) rfl (fun ls hl => ?_)
        refine lv_aload hx hb dX4_heldByAll_25 (lv_at hl 0 rfl) ?_
        refine lv_ifnull hx hb dX4_heldByAll_27 ?_
        refine lv_iload_n hx hb dX4_heldByAll_30 rfl (lv_at hl 1 rfl) ?_
        refine lv_aload hx hb dX4_heldByAll_31 (lv_at hl 0 rfl) ?_
        refine get5 C0 hK hW i2_ (al5 hi2_) 1 (by decide) wFL_X4_63 rfl rfl dX4_heldByAll_33 ?_
        refine lv_iadd hx hb dX4_heldByAll_36 ?_
        refine lv_istore_n (lv' := [(1, .int (v1 + (σ.1 5 i2_ 1))), (5, .ref (h.2.2 5 i2_)), (2, .ref (h.2.2 1 0)), (3, .int 4), (4, .int v4)]) hx hb dX4_heldByAll_37 rfl hl (by decide) rfl (fun ls hl => ?_)
        refine lv_iinc (v := v4 + 1) (lv' := [(4, .int (v4 + 1)), (1, .int (v1 + (σ.1 5 i2_ 1))), (5, .ref (h.2.2 5 i2_)), (2, .ref (h.2.2 1 0)), (3, .int 4)]) hx hb dX4_heldByAll_38 hl (k := 4) rfl rfl (by decide) rfl (fun ls hl => ?_)
        refine lv_goto (tgt := 13) hx hb dX4_heldByAll_41 (by decide) ?_
        exact ih (v1 + (σ.1 5 i2_ 1)) (v4 + 1) σ z hF _ _ _ hW hS (lv_sub hl [1, 3, 4, 0] rfl) kk
set_option maxHeartbeats 4000000 in
set_option maxRecDepth 100000 in
theorem kX4_heldByAll (l : Launch) (lo : Nat) (g : Gx) (h : Sh) (σ : Sg)   (r : Int32) (σ1 : Sg) (hF : FX4_heldByAll h.1 h.2.1 σ  = some (r, σ1)) : MI l yX4_heldByAll (ws_ yX4_heldByAll cX4_heldByAll 6 (some .int)) 0 0 0 0 lo g h [.ref (h.2.2 0 0)] σ r σ1 := by
  refine ofB (own := RX4) (by decide +kernel) rfl (fun p e s m below meth c C0 hr hlk hlo hK hZ hW hS ls hl => ?_) (Nat.le_of_ble_eq_true rfl)
  have hx := C0.1
  have hb := C0.2.1
  have hl : lv_has ls 6 [(0, .ref (h.2.2 0 0))] := hl
  unfold FX4_heldByAll at hF
  refine lv_iconst (v := 0) hx hb dX4_heldByAll_0 (by decide) ?_
  refine lv_istore_n (lv' := [(1, .int 0), (0, .ref (h.2.2 0 0))]) hx hb dX4_heldByAll_1 rfl hl (by decide) rfl (fun ls hl => ?_)
  refine lv_aload_n hx hb dX4_heldByAll_2 rfl (lv_at hl 1 rfl) ?_
  refine get0 C0 hK hW 0 (al0 h 0 (by decide)) 0 (by decide) wFL_X4_11 rfl rfl dX4_heldByAll_3 ?_
  refine lv_astore_n (lv' := [(2, .ref (h.2.2 1 0)), (1, .int 0), (0, .ref (h.2.2 0 0))]) hx hb dX4_heldByAll_6 rfl hl (by decide) rfl (fun ls hl => ?_)
  refine lv_aload_n hx hb dX4_heldByAll_7 rfl (lv_at hl 0 rfl) ?_
  refine len1 C0 hK hW dX4_heldByAll_8 ?_
  refine lv_istore_n (lv' := [(3, .int 4), (2, .ref (h.2.2 1 0)), (1, .int 0), (0, .ref (h.2.2 0 0))]) hx hb dX4_heldByAll_9 rfl hl (by decide) rfl (fun ls hl => ?_)
  refine lv_iconst (v := 0) hx hb dX4_heldByAll_10 (by decide) ?_
  refine lv_istore (lv' := [(4, .int 0), (3, .int 4), (2, .ref (h.2.2 1 0)), (1, .int 0), (0, .ref (h.2.2 0 0))]) hx hb dX4_heldByAll_11 hl (by decide) rfl (fun ls hl => ?_)
  obtain ⟨z3, hz3, hF⟩ := bnd hF
  refine lX4_heldByAll_13 C0 hlo hK hZ   _ 0 0 _ z3 hz3 _ _ _ hW hS (lv_sub hl [3, 2, 1, 0] rfl) (fun H locs ls hW hS hl => ?_)
  refine lv_iload_n hx hb dX4_heldByAll_44 rfl (lv_at hl 0 rfl) ?_
  cases hF
  exact retI C0 hr hlk hW hS dX4_heldByAll_45
theorem hdX4_shareBetweenCoupled : yX4_shareBetweenCoupled.cls = RX4 ∧ yX4_shareBetweenCoupled.cls ≠ "java/lang/invoke/MethodHandle" ∧ yX4_shareBetweenCoupled.cls ≠ "java/lang/invoke/VarHandle" ∧ (parseMethodDescriptor yX4_shareBetweenCoupled.desc).map (fun d => d.parameters.length) = some 0 := by decide +kernel
def LX4_shareBetweenCoupled_15 (ns nb : Nat) (v1 : Int32) : Nat → Int32 → Sg → Option (Sg)
  | 0, _, _ => none
  | n + 1, v2, σ => if 4 ≤ v2 then (some (σ)) else ((FX4_pairBit ns nb σ v1 v2).bind fun z3 => if ((σ.1 0 0 5) &&& z3.1) = 0 then (LX4_shareBetweenCoupled_15 ns nb v1 n (v2 + 1) z3.2) else ((FX4_springAt ns nb z3.2 v1).bind fun z5 => oc z5.1 ((FX4_springAt ns nb z5.2 v2).bind fun z6 => oc z6.1 ((FX4_shareBetween ns nb z6.2 none none).bind fun z7 => LX4_shareBetweenCoupled_15 ns nb v1 n (v2 + 1) z7) (fun iz6 => if iz6 < ns then ((FX4_shareBetween ns nb z6.2 none (some iz6)).bind fun z8 => LX4_shareBetweenCoupled_15 ns nb v1 n (v2 + 1) z8) else none)) (fun iz5 => if iz5 < ns then ((FX4_springAt ns nb z5.2 v2).bind fun z9 => oc z9.1 ((FX4_shareBetween ns nb z9.2 (some iz5) none).bind fun z10 => LX4_shareBetweenCoupled_15 ns nb v1 n (v2 + 1) z10) (fun iz9 => if iz9 < ns then ((FX4_shareBetween ns nb z9.2 (some iz5) (some iz9)).bind fun z11 => LX4_shareBetweenCoupled_15 ns nb v1 n (v2 + 1) z11) else none)) else none)))
def LX4_shareBetweenCoupled_2 (ns nb : Nat) : Nat → Int32 → Sg → Option (Sg)
  | 0, _, _ => none
  | n + 1, v1, σ => if 4 ≤ v1 then (some (σ)) else ((LX4_shareBetweenCoupled_15 ns nb v1 4100 (v1 + 1) σ).bind fun z12 => LX4_shareBetweenCoupled_2 ns nb  n (v1 + 1) z12)
def FX4_shareBetweenCoupled (ns nb : Nat) (σ : Sg)  : Option Sg :=
  (LX4_shareBetweenCoupled_2 ns nb  4100 0 σ).bind fun z13 => some z13
set_option maxHeartbeats 4000000 in
set_option maxRecDepth 100000 in
theorem lX4_shareBetweenCoupled_15 {p : Program} {l : Launch} {e : Env} {s : State} {m : MethodId} {args : Array Value} {below : List Frame} {meth : Method} {c : Code} {Q : State → Prop} {lo : Nat} {g : Gx} {h : Sh} (C0 : CallFix p m c cX4_shareBetweenCoupled 3 s args wB RX4) (hlo : lo ≤ s.heap.size) (hK : KW g s) (hZ : ZW lo s s.heap) (v1 : Int32)  : ∀ (n : Nat) (v2 : Int32) (σ : Sg) (z : (Sg)) (hF : LX4_shareBetweenCoupled_15 h.1 h.2.1 v1 n v2 σ = some z) (H : Heap) (locs : List Loc) (ls : Array Slot) (hW : FW g h (Ax lo) σ H) (hS : va_S (Ax lo) s.heap H locs) (hl : lv_has ls 3 [(0, .ref (h.2.2 0 0)), (1, .int v1), (2, .int v2)]) (kk : ∀ (H : Heap) (locs : List Loc) (ls : Array Slot), FW g h (Ax lo) z H → va_S (Ax lo) s.heap H locs → lv_has ls 3 [(0, .ref (h.2.2 0 0)), (1, .int v1)] → W p l e { frames := 2, cells := 0, slots := 0, locals := 44 } s m args below meth c H locs 0 0 Q (F0 m 56 ls [])), W p l e { frames := 2, cells := 0, slots := 0, locals := 44 } s m args below meth c H locs 0 0 Q (F0 m 15 ls []) := by
  have hx := C0.1
  have hb := C0.2.1
  intro n
  induction n with
  | zero =>
    intro v2 σ z hF
    rw [LX4_shareBetweenCoupled_15] at hF
    cases hF
  | succ n ih =>
    intro v2 σ z hF H locs ls hW hS hl kk
    rw [LX4_shareBetweenCoupled_15] at hF
    refine lv_iload_n hx hb dX4_shareBetweenCoupled_15 rfl (lv_at hl 2 rfl) ?_
    refine lv_aload_n hx hb dX4_shareBetweenCoupled_16 rfl (lv_at hl 0 rfl) ?_
    refine get0 C0 hK hW 0 (al0 h 0 (by decide)) 0 (by decide) wFL_X4_11 rfl rfl dX4_shareBetweenCoupled_17 ?_
    refine len1 C0 hK hW dX4_shareBetweenCoupled_20 ?_
    refine lv_icmp_ge (tgt := 56) hx hb dX4_shareBetweenCoupled_21 (by decide) (fun c2 => ?_) (fun c2 => ?_)
    · rw [if_pos c2] at hF
      cases hF
      exact kk _ _ _ hW hS (lv_sub hl [0, 1] rfl)
    · rw [if_neg c2] at hF
      refine lv_aload_n hx hb dX4_shareBetweenCoupled_24 rfl (lv_at hl 0 rfl) ?_
      refine get0 C0 hK hW 0 (al0 h 0 (by decide)) 5 (by decide) wFL_X4_81 rfl rfl dX4_shareBetweenCoupled_25 ?_
      refine lv_iload_n hx hb dX4_shareBetweenCoupled_28 rfl (lv_at hl 1 rfl) ?_
      refine lv_iload_n hx hb dX4_shareBetweenCoupled_29 rfl (lv_at hl 2 rfl) ?_
      obtain ⟨z3, hz3, hF⟩ := bnd hF
      refine inI (runS C0 hlo hK hZ hW hS (kX4_pairBit l lo g h _ v1 v2  _ _ hz3) wCO_X4_pairBit wML_X4_78 wST_X4_pairBit wIN_X4 hdsX4_pairBit ⟨Nat.le_of_ble_eq_true rfl, Nat.le_of_ble_eq_true rfl⟩ rfl hl.1 rfl (Nat.le_of_ble_eq_true rfl) dX4_shareBetweenCoupled_30 ⟨Nat.le_of_ble_eq_true rfl, Nat.le_of_ble_eq_true rfl⟩) hS (fun H locs hW hS => ?_)
      refine lv_iand hx hb dX4_shareBetweenCoupled_33 ?_
      refine lv_if_eq (tgt := 50) hx hb dX4_shareBetweenCoupled_34 (by decide) (fun c4 => ?_) (fun c4 => ?_)
      · rw [if_pos c4] at hF
        refine lv_iinc (v := v2 + 1) (lv' := [(2, .int (v2 + 1)), (0, .ref (h.2.2 0 0)), (1, .int v1)]) hx hb dX4_shareBetweenCoupled_50 hl (k := 2) rfl rfl (by decide) rfl (fun ls hl => ?_)
        refine lv_goto (tgt := 15) hx hb dX4_shareBetweenCoupled_53 (by decide) ?_
        exact ih (v2 + 1) z3.2 z hF _ _ _ hW hS (lv_sub hl [1, 2, 0] rfl) kk
      · rw [if_neg c4] at hF
        refine lv_aload_n hx hb dX4_shareBetweenCoupled_37 rfl (lv_at hl 0 rfl) ?_
        refine lv_iload_n hx hb dX4_shareBetweenCoupled_38 rfl (lv_at hl 1 rfl) ?_
        obtain ⟨z5, hz5, hF⟩ := bnd hF
        refine inR (runV C0 hlo hK hZ hW hS (kX4_springAt l lo g h _ v1  _ _ hz5) wCO_X4_springAt wML_X4_51 wIM_X4_springAt wSE_X4_X4_springAt wIN_X4 hdX4_springAt ⟨Nat.le_of_ble_eq_true rfl, Nat.le_of_ble_eq_true rfl⟩ (recvK hK hW (al0 h 0 (by decide)) (ct0 0) rfl) rfl hl.1 rfl (Nat.le_of_ble_eq_true rfl) dX4_shareBetweenCoupled_39 ⟨Nat.le_of_ble_eq_true rfl, Nat.le_of_ble_eq_true rfl⟩) hS (fun H locs hW hS => ?_)
        refine nspl (fun nz5 => ?_) (fun iz5 nz5 => ?_)
        · rw [nz5, oc_n] at hF
          refine lv_aload_n hx hb dX4_shareBetweenCoupled_42 rfl (lv_at hl 0 rfl) ?_
          refine lv_iload_n hx hb dX4_shareBetweenCoupled_43 rfl (lv_at hl 2 rfl) ?_
          obtain ⟨z6, hz6, hF⟩ := bnd hF
          refine inR (runV C0 hlo hK hZ hW hS (kX4_springAt l lo g h _ v2  _ _ hz6) wCO_X4_springAt wML_X4_51 wIM_X4_springAt wSE_X4_X4_springAt wIN_X4 hdX4_springAt ⟨Nat.le_of_ble_eq_true rfl, Nat.le_of_ble_eq_true rfl⟩ (recvK hK hW (al0 h 0 (by decide)) (ct0 0) rfl) rfl hl.1 rfl (Nat.le_of_ble_eq_true rfl) dX4_shareBetweenCoupled_44 ⟨Nat.le_of_ble_eq_true rfl, Nat.le_of_ble_eq_true rfl⟩) hS (fun H locs hW hS => ?_)
          refine nspl (fun nz6 => ?_) (fun iz6 nz6 => ?_)
          · rw [nz6, oc_n] at hF
            obtain ⟨z7, hz7, hF⟩ := bnd hF
            refine inV (runS C0 hlo hK hZ hW hS (kX4_shareBetween l lo g h _ none none  _ hz7) wCO_X4_shareBetween wML_X4_304 wST_X4_shareBetween wIN_X4 hdsX4_shareBetween ⟨Nat.le_of_ble_eq_true rfl, Nat.le_of_ble_eq_true rfl⟩ rfl hl.1 rfl (Nat.le_of_ble_eq_true rfl) dX4_shareBetweenCoupled_47 ⟨Nat.le_of_ble_eq_true rfl, Nat.le_of_ble_eq_true rfl⟩) hS (fun H locs hW hS => ?_)
            refine lv_iinc (v := v2 + 1) (lv' := [(2, .int (v2 + 1)), (0, .ref (h.2.2 0 0)), (1, .int v1)]) hx hb dX4_shareBetweenCoupled_50 hl (k := 2) rfl rfl (by decide) rfl (fun ls hl => ?_)
            refine lv_goto (tgt := 15) hx hb dX4_shareBetweenCoupled_53 (by decide) ?_
            exact ih (v2 + 1) z7 z hF _ _ _ hW hS (lv_sub hl [1, 2, 0] rfl) kk
          · rw [nz6, oc_s] at hF
            obtain ⟨hiz6, hF⟩ := grp hF
            obtain ⟨z8, hz8, hF⟩ := bnd hF
            refine inV (runS C0 hlo hK hZ hW hS (kX4_shareBetween l lo g h _ none (some iz6)  _ hz8) wCO_X4_shareBetween wML_X4_304 wST_X4_shareBetween wIN_X4 hdsX4_shareBetween ⟨Nat.le_of_ble_eq_true rfl, Nat.le_of_ble_eq_true rfl⟩ rfl hl.1 rfl (Nat.le_of_ble_eq_true rfl) dX4_shareBetweenCoupled_47 ⟨Nat.le_of_ble_eq_true rfl, Nat.le_of_ble_eq_true rfl⟩) hS (fun H locs hW hS => ?_)
            refine lv_iinc (v := v2 + 1) (lv' := [(2, .int (v2 + 1)), (0, .ref (h.2.2 0 0)), (1, .int v1)]) hx hb dX4_shareBetweenCoupled_50 hl (k := 2) rfl rfl (by decide) rfl (fun ls hl => ?_)
            refine lv_goto (tgt := 15) hx hb dX4_shareBetweenCoupled_53 (by decide) ?_
            exact ih (v2 + 1) z8 z hF _ _ _ hW hS (lv_sub hl [1, 2, 0] rfl) kk
        · rw [nz5, oc_s] at hF
          obtain ⟨hiz5, hF⟩ := grp hF
          refine lv_aload_n hx hb dX4_shareBetweenCoupled_42 rfl (lv_at hl 0 rfl) ?_
          refine lv_iload_n hx hb dX4_shareBetweenCoupled_43 rfl (lv_at hl 2 rfl) ?_
          obtain ⟨z9, hz9, hF⟩ := bnd hF
          refine inR (runV C0 hlo hK hZ hW hS (kX4_springAt l lo g h _ v2  _ _ hz9) wCO_X4_springAt wML_X4_51 wIM_X4_springAt wSE_X4_X4_springAt wIN_X4 hdX4_springAt ⟨Nat.le_of_ble_eq_true rfl, Nat.le_of_ble_eq_true rfl⟩ (recvK hK hW (al0 h 0 (by decide)) (ct0 0) rfl) rfl hl.1 rfl (Nat.le_of_ble_eq_true rfl) dX4_shareBetweenCoupled_44 ⟨Nat.le_of_ble_eq_true rfl, Nat.le_of_ble_eq_true rfl⟩) hS (fun H locs hW hS => ?_)
          refine nspl (fun nz9 => ?_) (fun iz9 nz9 => ?_)
          · rw [nz9, oc_n] at hF
            obtain ⟨z10, hz10, hF⟩ := bnd hF
            refine inV (runS C0 hlo hK hZ hW hS (kX4_shareBetween l lo g h _ (some iz5) none  _ hz10) wCO_X4_shareBetween wML_X4_304 wST_X4_shareBetween wIN_X4 hdsX4_shareBetween ⟨Nat.le_of_ble_eq_true rfl, Nat.le_of_ble_eq_true rfl⟩ rfl hl.1 rfl (Nat.le_of_ble_eq_true rfl) dX4_shareBetweenCoupled_47 ⟨Nat.le_of_ble_eq_true rfl, Nat.le_of_ble_eq_true rfl⟩) hS (fun H locs hW hS => ?_)
            refine lv_iinc (v := v2 + 1) (lv' := [(2, .int (v2 + 1)), (0, .ref (h.2.2 0 0)), (1, .int v1)]) hx hb dX4_shareBetweenCoupled_50 hl (k := 2) rfl rfl (by decide) rfl (fun ls hl => ?_)
            refine lv_goto (tgt := 15) hx hb dX4_shareBetweenCoupled_53 (by decide) ?_
            exact ih (v2 + 1) z10 z hF _ _ _ hW hS (lv_sub hl [1, 2, 0] rfl) kk
          · rw [nz9, oc_s] at hF
            obtain ⟨hiz9, hF⟩ := grp hF
            obtain ⟨z11, hz11, hF⟩ := bnd hF
            refine inV (runS C0 hlo hK hZ hW hS (kX4_shareBetween l lo g h _ (some iz5) (some iz9)  _ hz11) wCO_X4_shareBetween wML_X4_304 wST_X4_shareBetween wIN_X4 hdsX4_shareBetween ⟨Nat.le_of_ble_eq_true rfl, Nat.le_of_ble_eq_true rfl⟩ rfl hl.1 rfl (Nat.le_of_ble_eq_true rfl) dX4_shareBetweenCoupled_47 ⟨Nat.le_of_ble_eq_true rfl, Nat.le_of_ble_eq_true rfl⟩) hS (fun H locs hW hS => ?_)
            refine lv_iinc (v := v2 + 1) (lv' := [(2, .int (v2 + 1)), (0, .ref (h.2.2 0 0)), (1, .int v1)]) hx hb dX4_shareBetweenCoupled_50 hl (k := 2) rfl rfl (by decide) rfl (fun ls hl => ?_)
            refine lv_goto (tgt := 15) hx hb dX4_shareBetweenCoupled_53 (by decide) ?_
            exact ih (v2 + 1) z11 z hF _ _ _ hW hS (lv_sub hl [1, 2, 0] rfl) kk
set_option maxHeartbeats 4000000 in
set_option maxRecDepth 100000 in
theorem lX4_shareBetweenCoupled_2 {p : Program} {l : Launch} {e : Env} {s : State} {m : MethodId} {args : Array Value} {below : List Frame} {meth : Method} {c : Code} {Q : State → Prop} {lo : Nat} {g : Gx} {h : Sh} (C0 : CallFix p m c cX4_shareBetweenCoupled 3 s args wB RX4) (hlo : lo ≤ s.heap.size) (hK : KW g s) (hZ : ZW lo s s.heap)   : ∀ (n : Nat) (v1 : Int32) (σ : Sg) (z : (Sg)) (hF : LX4_shareBetweenCoupled_2 h.1 h.2.1  n v1 σ = some z) (H : Heap) (locs : List Loc) (ls : Array Slot) (hW : FW g h (Ax lo) σ H) (hS : va_S (Ax lo) s.heap H locs) (hl : lv_has ls 3 [(0, .ref (h.2.2 0 0)), (1, .int v1)]) (kk : ∀ (H : Heap) (locs : List Loc) (ls : Array Slot), FW g h (Ax lo) z H → va_S (Ax lo) s.heap H locs → lv_has ls 3 [] → W p l e { frames := 2, cells := 0, slots := 0, locals := 44 } s m args below meth c H locs 0 0 Q (F0 m 62 ls [])), W p l e { frames := 2, cells := 0, slots := 0, locals := 44 } s m args below meth c H locs 0 0 Q (F0 m 2 ls []) := by
  have hx := C0.1
  have hb := C0.2.1
  intro n
  induction n with
  | zero =>
    intro v1 σ z hF
    rw [LX4_shareBetweenCoupled_2] at hF
    cases hF
  | succ n ih =>
    intro v1 σ z hF H locs ls hW hS hl kk
    rw [LX4_shareBetweenCoupled_2] at hF
    refine lv_iload_n hx hb dX4_shareBetweenCoupled_2 rfl (lv_at hl 1 rfl) ?_
    refine lv_aload_n hx hb dX4_shareBetweenCoupled_3 rfl (lv_at hl 0 rfl) ?_
    refine get0 C0 hK hW 0 (al0 h 0 (by decide)) 0 (by decide) wFL_X4_11 rfl rfl dX4_shareBetweenCoupled_4 ?_
    refine len1 C0 hK hW dX4_shareBetweenCoupled_7 ?_
    refine lv_icmp_ge (tgt := 62) hx hb dX4_shareBetweenCoupled_8 (by decide) (fun c1 => ?_) (fun c1 => ?_)
    · rw [if_pos c1] at hF
      cases hF
      exact kk _ _ _ hW hS (lv_sub hl [] rfl)
    · rw [if_neg c1] at hF
      refine lv_iload_n hx hb dX4_shareBetweenCoupled_11 rfl (lv_at hl 1 rfl) ?_
      refine lv_iconst (v := 1) hx hb dX4_shareBetweenCoupled_12 (by decide) ?_
      refine lv_iadd hx hb dX4_shareBetweenCoupled_13 ?_
      refine lv_istore_n (lv' := [(2, .int (v1 + 1)), (0, .ref (h.2.2 0 0)), (1, .int v1)]) hx hb dX4_shareBetweenCoupled_14 rfl hl (by decide) rfl (fun ls hl => ?_)
      obtain ⟨z12, hz12, hF⟩ := bnd hF
      refine lX4_shareBetweenCoupled_15 C0 hlo hK hZ v1  _ (v1 + 1) _ z12 hz12 _ _ _ hW hS (lv_sub hl [1, 2, 0] rfl) (fun H locs ls hW hS hl => ?_)
      refine lv_iinc (v := v1 + 1) (lv' := [(1, .int (v1 + 1)), (0, .ref (h.2.2 0 0))]) hx hb dX4_shareBetweenCoupled_56 hl (k := 1) rfl rfl (by decide) rfl (fun ls hl => ?_)
      refine lv_goto (tgt := 2) hx hb dX4_shareBetweenCoupled_59 (by decide) ?_
      exact ih (v1 + 1) z12 z hF _ _ _ hW hS (lv_sub hl [1, 0] rfl) kk
set_option maxHeartbeats 4000000 in
set_option maxRecDepth 100000 in
theorem kX4_shareBetweenCoupled (l : Launch) (lo : Nat) (g : Gx) (h : Sh) (σ : Sg)   (σ1 : Sg) (hF : FX4_shareBetweenCoupled h.1 h.2.1 σ  = some σ1) : MV l yX4_shareBetweenCoupled (ws_ yX4_shareBetweenCoupled cX4_shareBetweenCoupled 3 none) 2 44 0 0 lo g h [.ref (h.2.2 0 0)] σ σ1 := by
  refine ofB (own := RX4) (by decide +kernel) rfl (fun p e s m below meth c C0 hr hlk hlo hK hZ hW hS ls hl => ?_) (Nat.le_of_ble_eq_true rfl)
  have hx := C0.1
  have hb := C0.2.1
  have hl : lv_has ls 3 [(0, .ref (h.2.2 0 0))] := hl
  unfold FX4_shareBetweenCoupled at hF
  refine lv_iconst (v := 0) hx hb dX4_shareBetweenCoupled_0 (by decide) ?_
  refine lv_istore_n (lv' := [(1, .int 0), (0, .ref (h.2.2 0 0))]) hx hb dX4_shareBetweenCoupled_1 rfl hl (by decide) rfl (fun ls hl => ?_)
  obtain ⟨z13, hz13, hF⟩ := bnd hF
  refine lX4_shareBetweenCoupled_2 C0 hlo hK hZ   _ 0 _ z13 hz13 _ _ _ hW hS (lv_sub hl [1, 0] rfl) (fun H locs ls hW hS hl => ?_)
  cases hF
  exact retV C0 hr hlk hW hS dX4_shareBetweenCoupled_62
theorem hdX4_soundPlace : yX4_soundPlace.cls = RX4 ∧ yX4_soundPlace.cls ≠ "java/lang/invoke/MethodHandle" ∧ yX4_soundPlace.cls ≠ "java/lang/invoke/VarHandle" ∧ (parseMethodDescriptor yX4_soundPlace.desc).map (fun d => d.parameters.length) = some 4 := by decide +kernel
def LX4_soundPlace_6 (ns nb : Nat) (v1 : Int32) (j2 : Nat) (j3 : Nat) (v4 : Int32) : Nat → Int32 → Int32 → Sg → Option (Int32 × Sg)
  | 0, _, _, _ => none
  | n + 1, v5, v6, σ => if 6 ≤ v6 then (some (v5, σ)) else ((FX0_hasPin ns nb σ j2 v4 v6).bind fun z2 => if z2.1 = 0 then (LX4_soundPlace_6 ns nb v1 j2 j3 v4 n v5 (v6 + 1) z2.2) else ((FX3_payForNote ns nb z2.2 j3).bind fun z4 => (FX4_at ns nb z4 8 j2 v6).bind fun z5 => (FX2_hear ns nb z5.2 (z4.1 0 0 6) v1 v6 z5.1).bind fun z6 => LX4_soundPlace_6 ns nb v1 j2 j3 v4 n (v5 + 1) (v6 + 1) z6))
def FX4_soundPlace (ns nb : Nat) (σ : Sg) (a1 : Int32) (i2 : Nat) (i3 : Nat) (a4 : Int32) : Option (Int32 × Sg) :=
  (LX4_soundPlace_6 ns nb a1 i2 i3 a4 4100 0 0 σ).bind fun z7 => some (z7.1, (sI z7.2 6 i2 12 ((z7.2.1 6 i2 12) + z7.1)))
set_option maxHeartbeats 4000000 in
set_option maxRecDepth 100000 in
theorem lX4_soundPlace_6 {p : Program} {l : Launch} {e : Env} {s : State} {m : MethodId} {args : Array Value} {below : List Frame} {meth : Method} {c : Code} {Q : State → Prop} {lo : Nat} {g : Gx} {h : Sh} (C0 : CallFix p m c cX4_soundPlace 7 s args wB RX4) (hlo : lo ≤ s.heap.size) (hK : KW g s) (hZ : ZW lo s s.heap) (v1 : Int32) (j2 : Nat) (j3 : Nat) (v4 : Int32) (hj2 : j2 < h.2.1) (hj3 : j3 < h.1) : ∀ (n : Nat) (v5 : Int32) (v6 : Int32) (σ : Sg) (z : (Int32 × Sg)) (hF : LX4_soundPlace_6 h.1 h.2.1 v1 j2 j3 v4 n v5 v6 σ = some z) (H : Heap) (locs : List Loc) (ls : Array Slot) (hW : FW g h (Ax lo) σ H) (hS : va_S (Ax lo) s.heap H locs) (hl : lv_has ls 7 [(0, .ref (h.2.2 0 0)), (1, .int v1), (2, .ref (h.2.2 6 j2)), (3, .ref (h.2.2 5 j3)), (4, .int v4), (5, .int v5), (6, .int v6)]) (kk : ∀ (H : Heap) (locs : List Loc) (ls : Array Slot), FW g h (Ax lo) z.2 H → va_S (Ax lo) s.heap H locs → lv_has ls 7 [(2, .ref (h.2.2 6 j2)), (5, .int z.1)] → W p l e { frames := 2, cells := 0, slots := 0, locals := 47 } s m args below meth c H locs 0 0 Q (F0 m 60 ls [])), W p l e { frames := 2, cells := 0, slots := 0, locals := 47 } s m args below meth c H locs 0 0 Q (F0 m 6 ls []) := by
  have hx := C0.1
  have hb := C0.2.1
  intro n
  induction n with
  | zero =>
    intro v5 v6 σ z hF
    rw [LX4_soundPlace_6] at hF
    cases hF
  | succ n ih =>
    intro v5 v6 σ z hF H locs ls hW hS hl kk
    rw [LX4_soundPlace_6] at hF
    refine lv_iload hx hb dX4_soundPlace_6 (lv_at hl 6 rfl) ?_
    refine lv_bipush (v := 6) hx hb dX4_soundPlace_8 (by decide) ?_
    refine lv_icmp_ge (tgt := 60) hx hb dX4_soundPlace_10 (by decide) (fun c1 => ?_) (fun c1 => ?_)
    · rw [if_pos c1] at hF
      cases hF
      exact kk _ _ _ hW hS (lv_sub hl [2, 5] rfl)
    · rw [if_neg c1] at hF
      refine lv_aload_n hx hb dX4_soundPlace_13 rfl (lv_at hl 2 rfl) ?_
      refine lv_iload hx hb dX4_soundPlace_14 (lv_at hl 4 rfl) ?_
      refine lv_iload hx hb dX4_soundPlace_16 (lv_at hl 6 rfl) ?_
      obtain ⟨z2, hz2, hF⟩ := bnd hF
      refine inI (runV C0 hlo hK hZ hW hS (kX0_hasPin l lo g h _ j2 v4 v6 hj2 _ _ hz2) wCO_X0_hasPin wML_X4_146 wIM_X0_hasPin wSE_X0_X0_hasPin wIN_X0 hdX0_hasPin ⟨Nat.le_of_ble_eq_true rfl, Nat.le_of_ble_eq_true rfl⟩ (recvK hK hW (al6 6 hj2 (by decide)) (ct6 j2) rfl) rfl hl.1 rfl (Nat.le_of_ble_eq_true rfl) dX4_soundPlace_18 ⟨Nat.le_of_ble_eq_true rfl, Nat.le_of_ble_eq_true rfl⟩) hS (fun H locs hW hS => ?_)
      refine lv_if_eq (tgt := 54) hx hb dX4_soundPlace_21 (by decide) (fun c3 => ?_) (fun c3 => ?_)
      · rw [if_pos c3] at hF
        refine lv_iinc (v := v6 + 1) (lv' := [(6, .int (v6 + 1)), (0, .ref (h.2.2 0 0)), (1, .int v1), (2, .ref (h.2.2 6 j2)), (3, .ref (h.2.2 5 j3)), (4, .int v4), (5, .int v5)]) hx hb dX4_soundPlace_54 hl (k := 6) rfl rfl (by decide) rfl (fun ls hl => ?_)
        refine lv_goto (tgt := 6) hx hb dX4_soundPlace_57 (by decide) ?_
        exact ih v5 (v6 + 1) z2.2 z hF _ _ _ hW hS (lv_sub hl [1, 2, 3, 4, 5, 6, 0] rfl) kk
      · rw [if_neg c3] at hF
        refine lv_aload_n hx hb dX4_soundPlace_24 rfl (lv_at hl 3 rfl) ?_
        obtain ⟨z4, hz4, hF⟩ := bnd hF
        refine inV (runV C0 hlo hK hZ hW hS (kX3_payForNote l lo g h _ j3 hj3 _ hz4) wCO_X3_payForNote wML_X4_338 wIM_X3_payForNote wSE_X3_X3_payForNote wIN_X3 hdX3_payForNote ⟨Nat.le_of_ble_eq_true rfl, Nat.le_of_ble_eq_true rfl⟩ (recvK hK hW (al5 hj3) (ct5 j3) rfl) rfl hl.1 rfl (Nat.le_of_ble_eq_true rfl) dX4_soundPlace_25 ⟨Nat.le_of_ble_eq_true rfl, Nat.le_of_ble_eq_true rfl⟩) hS (fun H locs hW hS => ?_)
        refine lv_aload_n hx hb dX4_soundPlace_28 rfl (lv_at hl 0 rfl) ?_
        refine get0 C0 hK hW 0 (al0 h 0 (by decide)) 2 (by decide) wFL_X4_24 rfl rfl dX4_soundPlace_29 ?_
        refine lv_aload_n hx hb dX4_soundPlace_32 rfl (lv_at hl 0 rfl) ?_
        refine get0 C0 hK hW 0 (al0 h 0 (by decide)) 6 (by decide) wFL_X4_234 rfl rfl dX4_soundPlace_33 ?_
        refine lv_iload_n hx hb dX4_soundPlace_36 rfl (lv_at hl 1 rfl) ?_
        refine lv_iload hx hb dX4_soundPlace_37 (lv_at hl 6 rfl) ?_
        refine lv_aload_n hx hb dX4_soundPlace_39 rfl (lv_at hl 2 rfl) ?_
        refine get6 C0 hK hW j2 (al6 6 hj2 (by decide)) 6 (by decide) wFL_X4_161 rfl rfl dX4_soundPlace_40 ?_
        refine lv_iload hx hb dX4_soundPlace_43 (lv_at hl 6 rfl) ?_
        obtain ⟨z5, hz5, hF⟩ := bnd hF
        refine inI (runS C0 hlo hK hZ hW hS (kX4_at l lo g h _ 8 j2 v6 (al6 8 hj2 (by decide)) (by decide) _ _ hz5) wCO_X4_at wML_X4_165 wST_X4_at wIN_X4 hdsX4_at ⟨Nat.le_of_ble_eq_true rfl, Nat.le_of_ble_eq_true rfl⟩ rfl hl.1 rfl (Nat.le_of_ble_eq_true rfl) dX4_soundPlace_45 ⟨Nat.le_of_ble_eq_true rfl, Nat.le_of_ble_eq_true rfl⟩) hS (fun H locs hW hS => ?_)
        obtain ⟨z6, hz6, hF⟩ := bnd hF
        refine inV (runV C0 hlo hK hZ hW hS (kX2_hear l lo g h _ (z4.1 0 0 6) v1 v6 z5.1  _ hz6) wCO_X2_hear wML_X4_341 wIM_X2_hear wSE_X2_X2_hear wIN_X2 hdX2_hear ⟨Nat.le_of_ble_eq_true rfl, Nat.le_of_ble_eq_true rfl⟩ (recvK hK hW (al0 h 3 (by decide)) (ct3 0) rfl) rfl hl.1 rfl (Nat.le_of_ble_eq_true rfl) dX4_soundPlace_48 ⟨Nat.le_of_ble_eq_true rfl, Nat.le_of_ble_eq_true rfl⟩) hS (fun H locs hW hS => ?_)
        refine lv_iinc (v := v5 + 1) (lv' := [(5, .int (v5 + 1)), (0, .ref (h.2.2 0 0)), (1, .int v1), (2, .ref (h.2.2 6 j2)), (3, .ref (h.2.2 5 j3)), (4, .int v4), (6, .int v6)]) hx hb dX4_soundPlace_51 hl (k := 5) rfl rfl (by decide) rfl (fun ls hl => ?_)
        refine lv_iinc (v := v6 + 1) (lv' := [(6, .int (v6 + 1)), (5, .int (v5 + 1)), (0, .ref (h.2.2 0 0)), (1, .int v1), (2, .ref (h.2.2 6 j2)), (3, .ref (h.2.2 5 j3)), (4, .int v4)]) hx hb dX4_soundPlace_54 hl (k := 6) rfl rfl (by decide) rfl (fun ls hl => ?_)
        refine lv_goto (tgt := 6) hx hb dX4_soundPlace_57 (by decide) ?_
        exact ih (v5 + 1) (v6 + 1) z6 z hF _ _ _ hW hS (lv_sub hl [2, 3, 4, 5, 6, 1, 0] rfl) kk
set_option maxHeartbeats 4000000 in
set_option maxRecDepth 100000 in
theorem kX4_soundPlace (l : Launch) (lo : Nat) (g : Gx) (h : Sh) (σ : Sg) (a1 : Int32) (i2 : Nat) (i3 : Nat) (a4 : Int32) (hi2 : i2 < h.2.1) (hi3 : i3 < h.1) (r : Int32) (σ1 : Sg) (hF : FX4_soundPlace h.1 h.2.1 σ a1 i2 i3 a4 = some (r, σ1)) : MI l yX4_soundPlace (ws_ yX4_soundPlace cX4_soundPlace 7 (some .int)) 2 47 0 0 lo g h [.ref (h.2.2 0 0), .int a1, .ref (h.2.2 6 i2), .ref (h.2.2 5 i3), .int a4] σ r σ1 := by
  refine ofB (own := RX4) (by decide +kernel) rfl (fun p e s m below meth c C0 hr hlk hlo hK hZ hW hS ls hl => ?_) (Nat.le_of_ble_eq_true rfl)
  have hx := C0.1
  have hb := C0.2.1
  have hl : lv_has ls 7 [(0, .ref (h.2.2 0 0)), (1, .int a1), (2, .ref (h.2.2 6 i2)), (3, .ref (h.2.2 5 i3)), (4, .int a4)] := hl
  unfold FX4_soundPlace at hF
  refine lv_iconst (v := 0) hx hb dX4_soundPlace_0 (by decide) ?_
  refine lv_istore (lv' := [(5, .int 0), (0, .ref (h.2.2 0 0)), (1, .int a1), (2, .ref (h.2.2 6 i2)), (3, .ref (h.2.2 5 i3)), (4, .int a4)]) hx hb dX4_soundPlace_1 hl (by decide) rfl (fun ls hl => ?_)
  refine lv_iconst (v := 0) hx hb dX4_soundPlace_3 (by decide) ?_
  refine lv_istore (lv' := [(6, .int 0), (5, .int 0), (0, .ref (h.2.2 0 0)), (1, .int a1), (2, .ref (h.2.2 6 i2)), (3, .ref (h.2.2 5 i3)), (4, .int a4)]) hx hb dX4_soundPlace_4 hl (by decide) rfl (fun ls hl => ?_)
  obtain ⟨z7, hz7, hF⟩ := bnd hF
  refine lX4_soundPlace_6 C0 hlo hK hZ a1 i2 i3 a4 hi2 hi3 _ 0 0 _ z7 hz7 _ _ _ hW hS (lv_sub hl [2, 3, 4, 5, 6, 1, 0] rfl) (fun H locs ls hW hS hl => ?_)
  refine lv_aload_n hx hb dX4_soundPlace_60 rfl (lv_at hl 0 rfl) ?_
  refine lv_dup hx hb dX4_soundPlace_61 rfl ?_
  refine get6 C0 hK hW i2 (al6 6 hi2 (by decide)) 12 (by decide) wFL_X4_219 rfl rfl dX4_soundPlace_62 ?_
  refine lv_iload hx hb dX4_soundPlace_65 (lv_at hl 1 rfl) ?_
  refine lv_iadd hx hb dX4_soundPlace_67 ?_
  refine put6_12 C0 hK hW hS i2 (al6 6 hi2 (by decide)) wFL_X4_219 dX4_soundPlace_68 (fun H locs hW hS => ?_)
  refine lv_iload hx hb dX4_soundPlace_71 (lv_at hl 1 rfl) ?_
  cases hF
  exact retI C0 hr hlk hW hS dX4_soundPlace_73
theorem hdX4_goBarrel : yX4_goBarrel.cls = RX4 ∧ yX4_goBarrel.cls ≠ "java/lang/invoke/MethodHandle" ∧ yX4_goBarrel.cls ≠ "java/lang/invoke/VarHandle" ∧ (parseMethodDescriptor yX4_goBarrel.desc).map (fun d => d.parameters.length) = some 3 := by decide +kernel
def LX4_goBarrel_38 (ns nb : Nat) (v1 : Int32) (j2 : Nat) (j3 : Nat) : Nat → Int32 → Int64 → Sg → Option (Int32 × Sg)
  | 0, _, _, _ => none
  | n + 1, v6, v7, σ => if (lg_cmp v7 0) ≤ 0 then (some (v6, σ)) else ((FX0_placeWhenGone ns nb σ j2 (((σ.2 6 j2 11) - v7) + 1)).bind fun z3 => (FX4_at ns nb z3.2 7 j2 z3.1).bind fun z4 => if z4.1 = 0 then (LX4_goBarrel_38 ns nb v1 j2 j3 n v6 (v7 - 1) z4.2) else ((FX4_soundPlace ns nb z4.2 v1 j2 j3 z3.1).bind fun z6 => LX4_goBarrel_38 ns nb v1 j2 j3 n (v6 + z6.1) (v7 - 1) z6.2))
def FX4_goBarrel (ns nb : Nat) (σ : Sg) (a1 : Int32) (i2 : Nat) (i3 : Nat) : Option (Int32 × Sg) :=
  (FX0_goneWhen ns nb σ i2 (σ.2 5 i3 2)).bind fun z1 => (LX4_goBarrel_38 ns nb a1 i2 i3 4100 0 (mnL (((sL z1.2 6 i2 11 z1.1).2 6 i2 11) - (σ.2 6 i2 11)) (((sL z1.2 6 i2 11 z1.1).1 6 i2 2).toInt64)) (sL z1.2 6 i2 11 z1.1)).bind fun z7 => some (z7.1, z7.2)
set_option maxHeartbeats 4000000 in
set_option maxRecDepth 100000 in
theorem lX4_goBarrel_38 {p : Program} {l : Launch} {e : Env} {s : State} {m : MethodId} {args : Array Value} {below : List Frame} {meth : Method} {c : Code} {Q : State → Prop} {lo : Nat} {g : Gx} {h : Sh} (C0 : CallFix p m c cX4_goBarrel 10 s args wB RX4) (hlo : lo ≤ s.heap.size) (hK : KW g s) (hZ : ZW lo s s.heap) (v1 : Int32) (j2 : Nat) (j3 : Nat) (hj2 : j2 < h.2.1) (hj3 : j3 < h.1) : ∀ (n : Nat) (v6 : Int32) (v7 : Int64) (σ : Sg) (z : (Int32 × Sg)) (hF : LX4_goBarrel_38 h.1 h.2.1 v1 j2 j3 n v6 v7 σ = some z) (H : Heap) (locs : List Loc) (ls : Array Slot) (hW : FW g h (Ax lo) σ H) (hS : va_S (Ax lo) s.heap H locs) (hl : lv_has ls 10 [(0, .ref (h.2.2 0 0)), (1, .int v1), (2, .ref (h.2.2 6 j2)), (3, .ref (h.2.2 5 j3)), (6, .int v6), (7, .long v7)]) (kk : ∀ (H : Heap) (locs : List Loc) (ls : Array Slot), FW g h (Ax lo) z.2 H → va_S (Ax lo) s.heap H locs → lv_has ls 10 [(6, .int z.1)] → W p l e { frames := 3, cells := 0, slots := 0, locals := 73 } s m args below meth c H locs 0 0 Q (F0 m 95 ls [])), W p l e { frames := 3, cells := 0, slots := 0, locals := 73 } s m args below meth c H locs 0 0 Q (F0 m 38 ls []) := by
  have hx := C0.1
  have hb := C0.2.1
  intro n
  induction n with
  | zero =>
    intro v6 v7 σ z hF
    rw [LX4_goBarrel_38] at hF
    cases hF
  | succ n ih =>
    intro v6 v7 σ z hF H locs ls hW hS hl kk
    rw [LX4_goBarrel_38] at hF
    refine lv_lload hx hb dX4_goBarrel_38 (lv_at hl 5 rfl) ?_
    refine lv_lconst (v := 0) hx hb dX4_goBarrel_40 (by decide) ?_
    refine W.lcmp hx hb dX4_goBarrel_41 ?_
    refine lv_if_le (tgt := 95) hx hb dX4_goBarrel_42 (by decide) (fun c2 => ?_) (fun c2 => ?_)
    · rw [if_pos c2] at hF
      cases hF
      exact kk _ _ _ hW hS (lv_sub hl [4] rfl)
    · rw [if_neg c2] at hF
      refine lv_aload_n hx hb dX4_goBarrel_45 rfl (lv_at hl 2 rfl) ?_
      refine lv_aload_n hx hb dX4_goBarrel_46 rfl (lv_at hl 2 rfl) ?_
      refine get6 C0 hK hW j2 (al6 6 hj2 (by decide)) 11 (by decide) wFL_X4_216 rfl rfl dX4_goBarrel_47 ?_
      refine lv_lload hx hb dX4_goBarrel_50 (lv_at hl 5 rfl) ?_
      refine lv_lsub hx hb dX4_goBarrel_52 ?_
      refine lv_lconst (v := 1) hx hb dX4_goBarrel_53 (by decide) ?_
      refine lv_ladd hx hb dX4_goBarrel_54 ?_
      obtain ⟨z3, hz3, hF⟩ := bnd hF
      refine inI (runV C0 hlo hK hZ hW hS (kX0_placeWhenGone l lo g h _ j2 (((σ.2 6 j2 11) - v7) + 1) hj2 _ _ hz3) wCO_X0_placeWhenGone wML_X4_328 wIM_X0_placeWhenGone wSE_X0_X0_placeWhenGone wIN_X0 hdX0_placeWhenGone ⟨Nat.le_of_ble_eq_true rfl, Nat.le_of_ble_eq_true rfl⟩ (recvK hK hW (al6 6 hj2 (by decide)) (ct6 j2) rfl) rfl hl.1 rfl (Nat.le_of_ble_eq_true rfl) dX4_goBarrel_55 ⟨Nat.le_of_ble_eq_true rfl, Nat.le_of_ble_eq_true rfl⟩) hS (fun H locs hW hS => ?_)
      refine lv_istore (lv' := [(9, .int z3.1), (0, .ref (h.2.2 0 0)), (1, .int v1), (2, .ref (h.2.2 6 j2)), (3, .ref (h.2.2 5 j3)), (6, .int v6), (7, .long v7)]) hx hb dX4_goBarrel_58 hl (by decide) rfl (fun ls hl => ?_)
      refine lv_aload_n hx hb dX4_goBarrel_60 rfl (lv_at hl 3 rfl) ?_
      refine get6 C0 hK hW j2 (al6 6 hj2 (by decide)) 5 (by decide) wFL_X4_331 rfl rfl dX4_goBarrel_61 ?_
      refine lv_iload hx hb dX4_goBarrel_64 (lv_at hl 0 rfl) ?_
      obtain ⟨z4, hz4, hF⟩ := bnd hF
      refine inI (runS C0 hlo hK hZ hW hS (kX4_at l lo g h _ 7 j2 z3.1 (al6 7 hj2 (by decide)) (by decide) _ _ hz4) wCO_X4_at wML_X4_165 wST_X4_at wIN_X4 hdsX4_at ⟨Nat.le_of_ble_eq_true rfl, Nat.le_of_ble_eq_true rfl⟩ rfl hl.1 rfl (Nat.le_of_ble_eq_true rfl) dX4_goBarrel_66 ⟨Nat.le_of_ble_eq_true rfl, Nat.le_of_ble_eq_true rfl⟩) hS (fun H locs hW hS => ?_)
      refine lv_if_eq (tgt := 86) hx hb dX4_goBarrel_69 (by decide) (fun c5 => ?_) (fun c5 => ?_)
      · rw [if_pos c5] at hF
        refine lv_lload hx hb dX4_goBarrel_86 (lv_at hl 6 rfl) ?_
        refine lv_lconst (v := 1) hx hb dX4_goBarrel_88 (by decide) ?_
        refine lv_lsub hx hb dX4_goBarrel_89 ?_
        refine lv_lstore (lv' := [(7, .long (v7 - 1)), (9, .int z3.1), (0, .ref (h.2.2 0 0)), (1, .int v1), (2, .ref (h.2.2 6 j2)), (3, .ref (h.2.2 5 j3)), (6, .int v6)]) hx hb dX4_goBarrel_90 hl (by decide) rfl (fun ls hl => ?_)
        refine lv_goto (tgt := 38) hx hb dX4_goBarrel_92 (by decide) ?_
        exact ih v6 (v7 - 1) z4.2 z hF _ _ _ hW hS (lv_sub hl [2, 3, 4, 5, 6, 0] rfl) kk
      · rw [if_neg c5] at hF
        refine lv_iload hx hb dX4_goBarrel_72 (lv_at hl 5 rfl) ?_
        refine lv_aload_n hx hb dX4_goBarrel_74 rfl (lv_at hl 1 rfl) ?_
        refine lv_iload_n hx hb dX4_goBarrel_75 rfl (lv_at hl 2 rfl) ?_
        refine lv_aload_n hx hb dX4_goBarrel_76 rfl (lv_at hl 3 rfl) ?_
        refine lv_aload_n hx hb dX4_goBarrel_77 rfl (lv_at hl 4 rfl) ?_
        refine lv_iload hx hb dX4_goBarrel_78 (lv_at hl 0 rfl) ?_
        obtain ⟨z6, hz6, hF⟩ := bnd hF
        refine inI (runV C0 hlo hK hZ hW hS (kX4_soundPlace l lo g h _ v1 j2 j3 z3.1 hj2 hj3 _ _ hz6) wCO_X4_soundPlace wML_X4_334 wIM_X4_soundPlace wSE_X4_X4_soundPlace wIN_X4 hdX4_soundPlace ⟨Nat.le_of_ble_eq_true rfl, Nat.le_of_ble_eq_true rfl⟩ (recvK hK hW (al0 h 0 (by decide)) (ct0 0) rfl) rfl hl.1 rfl (Nat.le_of_ble_eq_true rfl) dX4_goBarrel_80 ⟨Nat.le_of_ble_eq_true rfl, Nat.le_of_ble_eq_true rfl⟩) hS (fun H locs hW hS => ?_)
        refine lv_iadd hx hb dX4_goBarrel_83 ?_
        refine lv_istore (lv' := [(6, .int (v6 + z6.1)), (9, .int z3.1), (0, .ref (h.2.2 0 0)), (1, .int v1), (2, .ref (h.2.2 6 j2)), (3, .ref (h.2.2 5 j3)), (7, .long v7)]) hx hb dX4_goBarrel_84 hl (by decide) rfl (fun ls hl => ?_)
        refine lv_lload hx hb dX4_goBarrel_86 (lv_at hl 6 rfl) ?_
        refine lv_lconst (v := 1) hx hb dX4_goBarrel_88 (by decide) ?_
        refine lv_lsub hx hb dX4_goBarrel_89 ?_
        refine lv_lstore (lv' := [(7, .long (v7 - 1)), (6, .int (v6 + z6.1)), (9, .int z3.1), (0, .ref (h.2.2 0 0)), (1, .int v1), (2, .ref (h.2.2 6 j2)), (3, .ref (h.2.2 5 j3))]) hx hb dX4_goBarrel_90 hl (by decide) rfl (fun ls hl => ?_)
        refine lv_goto (tgt := 38) hx hb dX4_goBarrel_92 (by decide) ?_
        exact ih (v6 + z6.1) (v7 - 1) z6.2 z hF _ _ _ hW hS (lv_sub hl [3, 4, 5, 6, 1, 0] rfl) kk
set_option maxHeartbeats 4000000 in
set_option maxRecDepth 100000 in
theorem kX4_goBarrel (l : Launch) (lo : Nat) (g : Gx) (h : Sh) (σ : Sg) (a1 : Int32) (i2 : Nat) (i3 : Nat) (hi2 : i2 < h.2.1) (hi3 : i3 < h.1) (r : Int32) (σ1 : Sg) (hF : FX4_goBarrel h.1 h.2.1 σ a1 i2 i3 = some (r, σ1)) : MI l yX4_goBarrel (ws_ yX4_goBarrel cX4_goBarrel 10 (some .int)) 3 73 0 0 lo g h [.ref (h.2.2 0 0), .int a1, .ref (h.2.2 6 i2), .ref (h.2.2 5 i3)] σ r σ1 := by
  refine ofB (own := RX4) (by decide +kernel) rfl (fun p e s m below meth c C0 hr hlk hlo hK hZ hW hS ls hl => ?_) (Nat.le_of_ble_eq_true rfl)
  have hx := C0.1
  have hb := C0.2.1
  have hl : lv_has ls 10 [(0, .ref (h.2.2 0 0)), (1, .int a1), (2, .ref (h.2.2 6 i2)), (3, .ref (h.2.2 5 i3))] := hl
  unfold FX4_goBarrel at hF
  refine lv_aload_n hx hb dX4_goBarrel_0 rfl (lv_at hl 2 rfl) ?_
  refine get6 C0 hK hW i2 (al6 6 hi2 (by decide)) 11 (by decide) wFL_X4_216 rfl rfl dX4_goBarrel_1 ?_
  refine lv_lstore (lv' := [(4, .long (σ.2 6 i2 11)), (0, .ref (h.2.2 0 0)), (1, .int a1), (2, .ref (h.2.2 6 i2)), (3, .ref (h.2.2 5 i3))]) hx hb dX4_goBarrel_4 hl (by decide) rfl (fun ls hl => ?_)
  refine lv_aload_n hx hb dX4_goBarrel_6 rfl (lv_at hl 3 rfl) ?_
  refine lv_aload_n hx hb dX4_goBarrel_7 rfl (lv_at hl 3 rfl) ?_
  refine lv_aload_n hx hb dX4_goBarrel_8 rfl (lv_at hl 4 rfl) ?_
  refine get5 C0 hK hW i3 (al5 hi3) 2 (by decide) wFL_X4_93 rfl rfl dX4_goBarrel_9 ?_
  obtain ⟨z1, hz1, hF⟩ := bnd hF
  refine inL (runV C0 hlo hK hZ hW hS (kX0_goneWhen l lo g h _ i2 (σ.2 5 i3 2) hi2 _ _ hz1) wCO_X0_goneWhen wML_X4_321 wIM_X0_goneWhen wSE_X0_X0_goneWhen wIN_X0 hdX0_goneWhen ⟨Nat.le_of_ble_eq_true rfl, Nat.le_of_ble_eq_true rfl⟩ (recvK hK hW (al6 6 hi2 (by decide)) (ct6 i2) rfl) rfl hl.1 rfl (Nat.le_of_ble_eq_true rfl) dX4_goBarrel_12 ⟨Nat.le_of_ble_eq_true rfl, Nat.le_of_ble_eq_true rfl⟩) hS (fun H locs hW hS => ?_)
  refine put6_11 C0 hK hW hS i2 (al6 6 hi2 (by decide)) wFL_X4_216 dX4_goBarrel_15 (fun H locs hW hS => ?_)
  refine lv_iconst (v := 0) hx hb dX4_goBarrel_18 (by decide) ?_
  refine lv_istore (lv' := [(6, .int 0), (4, .long (σ.2 6 i2 11)), (0, .ref (h.2.2 0 0)), (1, .int a1), (2, .ref (h.2.2 6 i2)), (3, .ref (h.2.2 5 i3))]) hx hb dX4_goBarrel_19 hl (by decide) rfl (fun ls hl => ?_)
  refine lv_aload_n hx hb dX4_goBarrel_21 rfl (lv_at hl 4 rfl) ?_
  refine get6 C0 hK hW i2 (al6 6 hi2 (by decide)) 11 (by decide) wFL_X4_216 rfl rfl dX4_goBarrel_22 ?_
  refine lv_lload hx hb dX4_goBarrel_25 (lv_at hl 1 rfl) ?_
  refine lv_lsub hx hb dX4_goBarrel_27 ?_
  refine lv_aload_n hx hb dX4_goBarrel_28 rfl (lv_at hl 4 rfl) ?_
  refine get6 C0 hK hW i2 (al6 6 hi2 (by decide)) 2 (by decide) wFL_X4_193 rfl rfl dX4_goBarrel_29 ?_
  refine lv_i2l hx hb dX4_goBarrel_32 rfl ?_
  refine r_minl C0 hl.1 wML_X4_325 (Nat.le_of_ble_eq_true rfl) (Nat.le_of_ble_eq_true rfl) (Nat.le_of_ble_eq_true rfl) (Nat.le_of_ble_eq_true rfl) dX4_goBarrel_33 ?_
  refine lv_lstore (lv' := [(7, .long (mnL (((sL z1.2 6 i2 11 z1.1).2 6 i2 11) - (σ.2 6 i2 11)) (((sL z1.2 6 i2 11 z1.1).1 6 i2 2).toInt64))), (6, .int 0), (4, .long (σ.2 6 i2 11)), (0, .ref (h.2.2 0 0)), (1, .int a1), (2, .ref (h.2.2 6 i2)), (3, .ref (h.2.2 5 i3))]) hx hb dX4_goBarrel_36 hl (by decide) rfl (fun ls hl => ?_)
  obtain ⟨z7, hz7, hF⟩ := bnd hF
  refine lX4_goBarrel_38 C0 hlo hK hZ a1 i2 i3 hi2 hi3 _ 0 (mnL (((sL z1.2 6 i2 11 z1.1).2 6 i2 11) - (σ.2 6 i2 11)) (((sL z1.2 6 i2 11 z1.1).1 6 i2 2).toInt64)) _ z7 hz7 _ _ _ hW hS (lv_sub hl [3, 4, 5, 6, 1, 0] rfl) (fun H locs ls hW hS hl => ?_)
  refine lv_iload hx hb dX4_goBarrel_95 (lv_at hl 0 rfl) ?_
  cases hF
  exact retI C0 hr hlk hW hS dX4_goBarrel_97
theorem hdX4_goShaft : yX4_goShaft.cls = RX4 ∧ yX4_goShaft.cls ≠ "java/lang/invoke/MethodHandle" ∧ yX4_goShaft.cls ≠ "java/lang/invoke/VarHandle" ∧ (parseMethodDescriptor yX4_goShaft.desc).map (fun d => d.parameters.length) = some 2 := by decide +kernel
def LX4_goShaft_39 (ns nb : Nat) (v1 : Int32) (j2 : Nat) : Nat → Int32 → Int32 → Sg → Option (Int32 × Sg)
  | 0, _, _, _ => none
  | n + 1, v3, v4, σ => if 8 ≤ v4 then (some (v3, σ)) else (if (v4 < 0 ∨ 8 ≤ v4.toNatClampNeg) then none else (oc (iO nb v4.toNatClampNeg) (LX4_goShaft_39 ns nb v1 j2 n v3 (v4 + 1) σ) (fun i7_ => if i7_ < nb then ((FX0_isDrivenBy ns nb σ i7_ v1).bind fun z8 => if z8.1 = 0 then (LX4_goShaft_39 ns nb v1 j2 n v3 (v4 + 1) z8.2) else ((FX4_goBarrel ns nb z8.2 v4 i7_ j2).bind fun z10 => LX4_goShaft_39 ns nb v1 j2 n (v3 + z10.1) (v4 + 1) z10.2)) else none)))
def FX4_goShaft (ns nb : Nat) (σ : Sg) (a1 : Int32) (i2 : Nat) : Option (Int32 × Sg) :=
  if (σ.1 5 i2 4) = 0 then (if 0 < (σ.1 5 i2 1) then ((FX4_loadOn ns nb σ a1).bind fun z3 => (FX3_speedUnder ns nb z3.2 i2 z3.1).bind fun z4 => (FX3_turn ns nb z4.2 i2 z4.1).bind fun z5 => (LX4_goShaft_39 ns nb a1 i2 4100 0 0 z5).bind fun z11 => some (z11.1, z11.2)) else (some (0, (sI σ 5 i2 3 0)))) else (some (0, (sI σ 5 i2 3 0)))
set_option maxHeartbeats 4000000 in
set_option maxRecDepth 100000 in
theorem lX4_goShaft_39 {p : Program} {l : Launch} {e : Env} {s : State} {m : MethodId} {args : Array Value} {below : List Frame} {meth : Method} {c : Code} {Q : State → Prop} {lo : Nat} {g : Gx} {h : Sh} (C0 : CallFix p m c cX4_goShaft 6 s args wB RX4) (hlo : lo ≤ s.heap.size) (hK : KW g s) (hZ : ZW lo s s.heap) (v1 : Int32) (j2 : Nat) (hj2 : j2 < h.1) : ∀ (n : Nat) (v3 : Int32) (v4 : Int32) (σ : Sg) (z : (Int32 × Sg)) (hF : LX4_goShaft_39 h.1 h.2.1 v1 j2 n v3 v4 σ = some z) (H : Heap) (locs : List Loc) (ls : Array Slot) (hW : FW g h (Ax lo) σ H) (hS : va_S (Ax lo) s.heap H locs) (hl : lv_has ls 6 [(0, .ref (h.2.2 0 0)), (1, .int v1), (2, .ref (h.2.2 5 j2)), (3, .int v3), (4, .int v4)]) (kk : ∀ (H : Heap) (locs : List Loc) (ls : Array Slot), FW g h (Ax lo) z.2 H → va_S (Ax lo) s.heap H locs → lv_has ls 6 [(3, .int z.1)] → W p l e { frames := 4, cells := 0, slots := 0, locals := 102 } s m args below meth c H locs 0 0 Q (F0 m 90 ls [])), W p l e { frames := 4, cells := 0, slots := 0, locals := 102 } s m args below meth c H locs 0 0 Q (F0 m 39 ls []) := by
  have hx := C0.1
  have hb := C0.2.1
  intro n
  induction n with
  | zero =>
    intro v3 v4 σ z hF
    rw [LX4_goShaft_39] at hF
    cases hF
  | succ n ih =>
    intro v3 v4 σ z hF H locs ls hW hS hl kk
    rw [LX4_goShaft_39] at hF
    refine lv_iload hx hb dX4_goShaft_39 (lv_at hl 4 rfl) ?_
    refine lv_aload_n hx hb dX4_goShaft_41 rfl (lv_at hl 0 rfl) ?_
    refine get0 C0 hK hW 0 (al0 h 0 (by decide)) 1 (by decide) wFL_X4_17 rfl rfl dX4_goShaft_42 ?_
    refine len2 C0 hK hW dX4_goShaft_45 ?_
    refine lv_icmp_ge (tgt := 90) hx hb dX4_goShaft_46 (by decide) (fun c6 => ?_) (fun c6 => ?_)
    · rw [if_pos c6] at hF
      cases hF
      exact kk _ _ _ hW hS (lv_sub hl [3] rfl)
    · rw [if_neg c6] at hF
      refine lv_aload_n hx hb dX4_goShaft_49 rfl (lv_at hl 0 rfl) ?_
      refine get0 C0 hK hW 0 (al0 h 0 (by decide)) 1 (by decide) wFL_X4_17 rfl rfl dX4_goShaft_50 ?_
      refine lv_iload hx hb dX4_goShaft_53 (lv_at hl 4 rfl) ?_
      obtain ⟨hg, hF⟩ := grd hF
      refine ld2 C0 hK hW hg dX4_goShaft_55 ?_
      refine nspl (fun n7 => ?_) (fun i7_ n7 => ?_)
      · rw [n7, oc_n] at hF
        refine lv_astoreN (lv' := [(5, .null), (0, .ref (h.2.2 0 0)), (1, .int v1), (2, .ref (h.2.2 5 j2)), (3, .int v3), (4, .int v4)]) hx hb dX4_goShaft_56 hl (by decide) rfl (fun ls hl => ?_)
        refine lv_aloadN hx hb dX4_goShaft_58 (lv_at hl 0 rfl) ?_
        refine lv_ifnullN (tgt := 84) hx hb dX4_goShaft_60 (by decide) ?_
        refine lv_iinc (v := v4 + 1) (lv' := [(4, .int (v4 + 1)), (5, .null), (0, .ref (h.2.2 0 0)), (1, .int v1), (2, .ref (h.2.2 5 j2)), (3, .int v3)]) hx hb dX4_goShaft_84 hl (k := 5) rfl rfl (by decide) rfl (fun ls hl => ?_)
        refine lv_goto (tgt := 39) hx hb dX4_goShaft_87 (by decide) ?_
        exact ih v3 (v4 + 1) σ z hF _ _ _ hW hS (lv_sub hl [2, 3, 4, 5, 0] rfl) kk
      · rw [n7, oc_s] at hF
        obtain ⟨hi7_, hF⟩ := grp hF
        refine lv_astore (lv' := [(5, .ref (h.2.2 6 i7_)), (0, .ref (h.2.2 0 0)), (1, .int v1), (2, .ref (h.2.2 5 j2)), (3, .int v3), (4, .int v4)]) hx hb dX4_goShaft_56 hl (by decide) rfl (fun ls hl => ?_)
        refine lv_aload hx hb dX4_goShaft_58 (lv_at hl 0 rfl) ?_
        refine lv_ifnull hx hb dX4_goShaft_60 ?_
        refine lv_aload hx hb dX4_goShaft_63 (lv_at hl 0 rfl) ?_
        refine lv_iload_n hx hb dX4_goShaft_65 rfl (lv_at hl 2 rfl) ?_
        obtain ⟨z8, hz8, hF⟩ := bnd hF
        refine inI (runV C0 hlo hK hZ hW hS (kX0_isDrivenBy l lo g h _ i7_ v1 hi7_ _ _ hz8) wCO_X0_isDrivenBy wML_X4_314 wIM_X0_isDrivenBy wSE_X0_X0_isDrivenBy wIN_X0 hdX0_isDrivenBy ⟨Nat.le_of_ble_eq_true rfl, Nat.le_of_ble_eq_true rfl⟩ (recvK hK hW (al6 6 hi7_ (by decide)) (ct6 i7_) rfl) rfl hl.1 rfl (Nat.le_of_ble_eq_true rfl) dX4_goShaft_66 ⟨Nat.le_of_ble_eq_true rfl, Nat.le_of_ble_eq_true rfl⟩) hS (fun H locs hW hS => ?_)
        refine lv_if_eq (tgt := 84) hx hb dX4_goShaft_69 (by decide) (fun c9 => ?_) (fun c9 => ?_)
        · rw [if_pos c9] at hF
          refine lv_iinc (v := v4 + 1) (lv' := [(4, .int (v4 + 1)), (5, .ref (h.2.2 6 i7_)), (0, .ref (h.2.2 0 0)), (1, .int v1), (2, .ref (h.2.2 5 j2)), (3, .int v3)]) hx hb dX4_goShaft_84 hl (k := 5) rfl rfl (by decide) rfl (fun ls hl => ?_)
          refine lv_goto (tgt := 39) hx hb dX4_goShaft_87 (by decide) ?_
          exact ih v3 (v4 + 1) z8.2 z hF _ _ _ hW hS (lv_sub hl [2, 3, 4, 5, 0] rfl) kk
        · rw [if_neg c9] at hF
          refine lv_iload_n hx hb dX4_goShaft_72 rfl (lv_at hl 4 rfl) ?_
          refine lv_aload_n hx hb dX4_goShaft_73 rfl (lv_at hl 1 rfl) ?_
          refine lv_iload hx hb dX4_goShaft_74 (lv_at hl 5 rfl) ?_
          refine lv_aload hx hb dX4_goShaft_76 (lv_at hl 0 rfl) ?_
          refine lv_aload_n hx hb dX4_goShaft_78 rfl (lv_at hl 3 rfl) ?_
          obtain ⟨z10, hz10, hF⟩ := bnd hF
          refine inI (runV C0 hlo hK hZ hW hS (kX4_goBarrel l lo g h _ v4 i7_ j2 hi7_ hj2 _ _ hz10) wCO_X4_goBarrel wML_X4_317 wIM_X4_goBarrel wSE_X4_X4_goBarrel wIN_X4 hdX4_goBarrel ⟨Nat.le_of_ble_eq_true rfl, Nat.le_of_ble_eq_true rfl⟩ (recvK hK hW (al0 h 0 (by decide)) (ct0 0) rfl) rfl hl.1 rfl (Nat.le_of_ble_eq_true rfl) dX4_goShaft_79 ⟨Nat.le_of_ble_eq_true rfl, Nat.le_of_ble_eq_true rfl⟩) hS (fun H locs hW hS => ?_)
          refine lv_iadd hx hb dX4_goShaft_82 ?_
          refine lv_istore_n (lv' := [(3, .int (v3 + z10.1)), (5, .ref (h.2.2 6 i7_)), (0, .ref (h.2.2 0 0)), (1, .int v1), (2, .ref (h.2.2 5 j2)), (4, .int v4)]) hx hb dX4_goShaft_83 rfl hl (by decide) rfl (fun ls hl => ?_)
          refine lv_iinc (v := v4 + 1) (lv' := [(4, .int (v4 + 1)), (3, .int (v3 + z10.1)), (5, .ref (h.2.2 6 i7_)), (0, .ref (h.2.2 0 0)), (1, .int v1), (2, .ref (h.2.2 5 j2))]) hx hb dX4_goShaft_84 hl (k := 5) rfl rfl (by decide) rfl (fun ls hl => ?_)
          refine lv_goto (tgt := 39) hx hb dX4_goShaft_87 (by decide) ?_
          exact ih (v3 + z10.1) (v4 + 1) z10.2 z hF _ _ _ hW hS (lv_sub hl [3, 4, 5, 1, 0] rfl) kk
set_option maxHeartbeats 4000000 in
set_option maxRecDepth 100000 in
theorem kX4_goShaft (l : Launch) (lo : Nat) (g : Gx) (h : Sh) (σ : Sg) (a1 : Int32) (i2 : Nat) (hi2 : i2 < h.1) (r : Int32) (σ1 : Sg) (hF : FX4_goShaft h.1 h.2.1 σ a1 i2 = some (r, σ1)) : MI l yX4_goShaft (ws_ yX4_goShaft cX4_goShaft 6 (some .int)) 4 102 0 0 lo g h [.ref (h.2.2 0 0), .int a1, .ref (h.2.2 5 i2)] σ r σ1 := by
  refine ofB (own := RX4) (by decide +kernel) rfl (fun p e s m below meth c C0 hr hlk hlo hK hZ hW hS ls hl => ?_) (Nat.le_of_ble_eq_true rfl)
  have hx := C0.1
  have hb := C0.2.1
  have hl : lv_has ls 6 [(0, .ref (h.2.2 0 0)), (1, .int a1), (2, .ref (h.2.2 5 i2))] := hl
  unfold FX4_goShaft at hF
  refine lv_aload_n hx hb dX4_goShaft_0 rfl (lv_at hl 2 rfl) ?_
  refine get5 C0 hK hW i2 (al5 hi2) 4 (by decide) wFL_X4_72 rfl rfl dX4_goShaft_1 ?_
  refine lv_if_ne (tgt := 14) hx hb dX4_goShaft_4 (by decide) (fun c1 => ?_) (fun c1 => ?_)
  · rw [if_neg c1] at hF
    refine lv_aload_n hx hb dX4_goShaft_14 rfl (lv_at hl 2 rfl) ?_
    refine lv_iconst (v := 0) hx hb dX4_goShaft_15 (by decide) ?_
    refine put5_3 C0 hK hW hS i2 (al5 hi2) wFL_X4_97 dX4_goShaft_16 (fun H locs hW hS => ?_)
    refine lv_iconst (v := 0) hx hb dX4_goShaft_19 (by decide) ?_
    cases hF
    exact retI C0 hr hlk hW hS dX4_goShaft_20
  · rw [if_pos c1] at hF
    refine lv_aload_n hx hb dX4_goShaft_7 rfl (lv_at hl 2 rfl) ?_
    refine get5 C0 hK hW i2 (al5 hi2) 1 (by decide) wFL_X4_63 rfl rfl dX4_goShaft_8 ?_
    refine lv_if_gt (tgt := 21) hx hb dX4_goShaft_11 (by decide) (fun c2 => ?_) (fun c2 => ?_)
    · rw [if_pos c2] at hF
      refine lv_aload_n hx hb dX4_goShaft_21 rfl (lv_at hl 2 rfl) ?_
      refine lv_aload_n hx hb dX4_goShaft_22 rfl (lv_at hl 2 rfl) ?_
      refine lv_aload_n hx hb dX4_goShaft_23 rfl (lv_at hl 0 rfl) ?_
      refine lv_iload_n hx hb dX4_goShaft_24 rfl (lv_at hl 1 rfl) ?_
      obtain ⟨z3, hz3, hF⟩ := bnd hF
      refine inI (runV C0 hlo hK hZ hW hS (kX4_loadOn l lo g h _ a1  _ _ hz3) wCO_X4_loadOn wML_X4_103 wIM_X4_loadOn wSE_X4_X4_loadOn wIN_X4 hdX4_loadOn ⟨Nat.le_of_ble_eq_true rfl, Nat.le_of_ble_eq_true rfl⟩ (recvK hK hW (al0 h 0 (by decide)) (ct0 0) rfl) rfl hl.1 rfl (Nat.le_of_ble_eq_true rfl) dX4_goShaft_25 ⟨Nat.le_of_ble_eq_true rfl, Nat.le_of_ble_eq_true rfl⟩) hS (fun H locs hW hS => ?_)
      obtain ⟨z4, hz4, hF⟩ := bnd hF
      refine inI (runV C0 hlo hK hZ hW hS (kX3_speedUnder l lo g h _ i2 z3.1 hi2 _ _ hz4) wCO_X3_speedUnder wML_X4_308 wIM_X3_speedUnder wSE_X3_X3_speedUnder wIN_X3 hdX3_speedUnder ⟨Nat.le_of_ble_eq_true rfl, Nat.le_of_ble_eq_true rfl⟩ (recvK hK hW (al5 hi2) (ct5 i2) rfl) rfl hl.1 rfl (Nat.le_of_ble_eq_true rfl) dX4_goShaft_28 ⟨Nat.le_of_ble_eq_true rfl, Nat.le_of_ble_eq_true rfl⟩) hS (fun H locs hW hS => ?_)
      obtain ⟨z5, hz5, hF⟩ := bnd hF
      refine inV (runV C0 hlo hK hZ hW hS (kX3_turn l lo g h _ i2 z4.1 hi2 _ hz5) wCO_X3_turn wML_X4_311 wIM_X3_turn wSE_X3_X3_turn wIN_X3 hdX3_turn ⟨Nat.le_of_ble_eq_true rfl, Nat.le_of_ble_eq_true rfl⟩ (recvK hK hW (al5 hi2) (ct5 i2) rfl) rfl hl.1 rfl (Nat.le_of_ble_eq_true rfl) dX4_goShaft_31 ⟨Nat.le_of_ble_eq_true rfl, Nat.le_of_ble_eq_true rfl⟩) hS (fun H locs hW hS => ?_)
      refine lv_iconst (v := 0) hx hb dX4_goShaft_34 (by decide) ?_
      refine lv_istore_n (lv' := [(3, .int 0), (0, .ref (h.2.2 0 0)), (1, .int a1), (2, .ref (h.2.2 5 i2))]) hx hb dX4_goShaft_35 rfl hl (by decide) rfl (fun ls hl => ?_)
      refine lv_iconst (v := 0) hx hb dX4_goShaft_36 (by decide) ?_
      refine lv_istore (lv' := [(4, .int 0), (3, .int 0), (0, .ref (h.2.2 0 0)), (1, .int a1), (2, .ref (h.2.2 5 i2))]) hx hb dX4_goShaft_37 hl (by decide) rfl (fun ls hl => ?_)
      obtain ⟨z11, hz11, hF⟩ := bnd hF
      refine lX4_goShaft_39 C0 hlo hK hZ a1 i2 hi2 _ 0 0 _ z11 hz11 _ _ _ hW hS (lv_sub hl [2, 3, 4, 1, 0] rfl) (fun H locs ls hW hS hl => ?_)
      refine lv_iload_n hx hb dX4_goShaft_90 rfl (lv_at hl 0 rfl) ?_
      cases hF
      exact retI C0 hr hlk hW hS dX4_goShaft_91
    · rw [if_neg c2] at hF
      refine lv_aload_n hx hb dX4_goShaft_14 rfl (lv_at hl 2 rfl) ?_
      refine lv_iconst (v := 0) hx hb dX4_goShaft_15 (by decide) ?_
      refine put5_3 C0 hK hW hS i2 (al5 hi2) wFL_X4_97 dX4_goShaft_16 (fun H locs hW hS => ?_)
      refine lv_iconst (v := 0) hx hb dX4_goShaft_19 (by decide) ?_
      cases hF
      exact retI C0 hr hlk hW hS dX4_goShaft_20
theorem hdX4_goOneTick : yX4_goOneTick.cls = RX4 ∧ yX4_goOneTick.cls ≠ "java/lang/invoke/MethodHandle" ∧ yX4_goOneTick.cls ≠ "java/lang/invoke/VarHandle" ∧ (parseMethodDescriptor yX4_goOneTick.desc).map (fun d => d.parameters.length) = some 0 := by decide +kernel
def LX4_goOneTick_18 (ns nb : Nat) : Nat → Int32 → Int32 → Sg → Option (Int32 × Sg)
  | 0, _, _, _ => none
  | n + 1, v1, v2, σ => if 4 ≤ v2 then (some (v1, σ)) else (if (v2 < 0 ∨ 4 ≤ v2.toNatClampNeg) then none else (oc (iO ns v2.toNatClampNeg) (LX4_goOneTick_18 ns nb  n v1 (v2 + 1) σ) (fun i3_ => if i3_ < ns then ((FX4_goShaft ns nb σ v2 i3_).bind fun z4 => LX4_goOneTick_18 ns nb  n (v1 + z4.1) (v2 + 1) z4.2) else none)))
def FX4_goOneTick (ns nb : Nat) (σ : Sg)  : Option (Int32 × Sg) :=
  (FX4_shareBetweenCoupled ns nb (sI σ 0 0 6 ((σ.1 0 0 6) + 1)) ).bind fun z1 => (LX4_goOneTick_18 ns nb  4100 0 0 z1).bind fun z5 => some (z5.1, z5.2)
set_option maxHeartbeats 4000000 in
set_option maxRecDepth 100000 in
theorem lX4_goOneTick_18 {p : Program} {l : Launch} {e : Env} {s : State} {m : MethodId} {args : Array Value} {below : List Frame} {meth : Method} {c : Code} {Q : State → Prop} {lo : Nat} {g : Gx} {h : Sh} (C0 : CallFix p m c cX4_goOneTick 4 s args wB RX4) (hlo : lo ≤ s.heap.size) (hK : KW g s) (hZ : ZW lo s s.heap)   : ∀ (n : Nat) (v1 : Int32) (v2 : Int32) (σ : Sg) (z : (Int32 × Sg)) (hF : LX4_goOneTick_18 h.1 h.2.1  n v1 v2 σ = some z) (H : Heap) (locs : List Loc) (ls : Array Slot) (hW : FW g h (Ax lo) σ H) (hS : va_S (Ax lo) s.heap H locs) (hl : lv_has ls 4 [(0, .ref (h.2.2 0 0)), (1, .int v1), (2, .int v2)]) (kk : ∀ (H : Heap) (locs : List Loc) (ls : Array Slot), FW g h (Ax lo) z.2 H → va_S (Ax lo) s.heap H locs → lv_has ls 4 [(1, .int z.1)] → W p l e { frames := 5, cells := 0, slots := 0, locals := 127 } s m args below meth c H locs 0 0 Q (F0 m 53 ls [])), W p l e { frames := 5, cells := 0, slots := 0, locals := 127 } s m args below meth c H locs 0 0 Q (F0 m 18 ls []) := by
  have hx := C0.1
  have hb := C0.2.1
  intro n
  induction n with
  | zero =>
    intro v1 v2 σ z hF
    rw [LX4_goOneTick_18] at hF
    cases hF
  | succ n ih =>
    intro v1 v2 σ z hF H locs ls hW hS hl kk
    rw [LX4_goOneTick_18] at hF
    refine lv_iload_n hx hb dX4_goOneTick_18 rfl (lv_at hl 2 rfl) ?_
    refine lv_aload_n hx hb dX4_goOneTick_19 rfl (lv_at hl 0 rfl) ?_
    refine get0 C0 hK hW 0 (al0 h 0 (by decide)) 0 (by decide) wFL_X4_11 rfl rfl dX4_goOneTick_20 ?_
    refine len1 C0 hK hW dX4_goOneTick_23 ?_
    refine lv_icmp_ge (tgt := 53) hx hb dX4_goOneTick_24 (by decide) (fun c2 => ?_) (fun c2 => ?_)
    · rw [if_pos c2] at hF
      cases hF
      exact kk _ _ _ hW hS (lv_sub hl [1] rfl)
    · rw [if_neg c2] at hF
      refine lv_aload_n hx hb dX4_goOneTick_27 rfl (lv_at hl 0 rfl) ?_
      refine get0 C0 hK hW 0 (al0 h 0 (by decide)) 0 (by decide) wFL_X4_11 rfl rfl dX4_goOneTick_28 ?_
      refine lv_iload_n hx hb dX4_goOneTick_31 rfl (lv_at hl 2 rfl) ?_
      obtain ⟨hg, hF⟩ := grd hF
      refine ld1 C0 hK hW hg dX4_goOneTick_32 ?_
      refine nspl (fun n3 => ?_) (fun i3_ n3 => ?_)
      · rw [n3, oc_n] at hF
        refine lv_astore_nN (lv' := [(3, .null), (0, .ref (h.2.2 0 0)), (1, .int v1), (2, .int v2)]) hx hb dX4_goOneTick_33 rfl hl (by decide) rfl (fun ls hl => ?_)
        refine lv_aload_nN hx hb dX4_goOneTick_34 rfl (lv_at hl 0 rfl) ?_
        refine lv_ifnullN (tgt := 47) hx hb dX4_goOneTick_35 (by decide) ?_
        refine lv_iinc (v := v2 + 1) (lv' := [(2, .int (v2 + 1)), (3, .null), (0, .ref (h.2.2 0 0)), (1, .int v1)]) hx hb dX4_goOneTick_47 hl (k := 3) rfl rfl (by decide) rfl (fun ls hl => ?_)
        refine lv_goto (tgt := 18) hx hb dX4_goOneTick_50 (by decide) ?_
        exact ih v1 (v2 + 1) σ z hF _ _ _ hW hS (lv_sub hl [2, 3, 0] rfl) kk
      · rw [n3, oc_s] at hF
        obtain ⟨hi3_, hF⟩ := grp hF
        refine lv_astore_n (lv' := [(3, .ref (h.2.2 5 i3_)), (0, .ref (h.2.2 0 0)), (1, .int v1), (2, .int v2)]) hx hb dX4_goOneTick_33 rfl hl (by decide) rfl (fun ls hl => ?_)
        refine lv_aload_n hx hb dX4_goOneTick_34 rfl (lv_at hl 0 rfl) ?_
        refine lv_ifnull hx hb dX4_goOneTick_35 ?_
        refine lv_iload_n hx hb dX4_goOneTick_38 rfl (lv_at hl 2 rfl) ?_
        refine lv_aload_n hx hb dX4_goOneTick_39 rfl (lv_at hl 1 rfl) ?_
        refine lv_iload_n hx hb dX4_goOneTick_40 rfl (lv_at hl 3 rfl) ?_
        refine lv_aload_n hx hb dX4_goOneTick_41 rfl (lv_at hl 0 rfl) ?_
        obtain ⟨z4, hz4, hF⟩ := bnd hF
        refine inI (runV C0 hlo hK hZ hW hS (kX4_goShaft l lo g h _ v2 i3_ hi3_ _ _ hz4) wCO_X4_goShaft wML_X4_300 wIM_X4_goShaft wSE_X4_X4_goShaft wIN_X4 hdX4_goShaft ⟨Nat.le_of_ble_eq_true rfl, Nat.le_of_ble_eq_true rfl⟩ (recvK hK hW (al0 h 0 (by decide)) (ct0 0) rfl) rfl hl.1 rfl (Nat.le_of_ble_eq_true rfl) dX4_goOneTick_42 ⟨Nat.le_of_ble_eq_true rfl, Nat.le_of_ble_eq_true rfl⟩) hS (fun H locs hW hS => ?_)
        refine lv_iadd hx hb dX4_goOneTick_45 ?_
        refine lv_istore_n (lv' := [(1, .int (v1 + z4.1)), (3, .ref (h.2.2 5 i3_)), (0, .ref (h.2.2 0 0)), (2, .int v2)]) hx hb dX4_goOneTick_46 rfl hl (by decide) rfl (fun ls hl => ?_)
        refine lv_iinc (v := v2 + 1) (lv' := [(2, .int (v2 + 1)), (1, .int (v1 + z4.1)), (3, .ref (h.2.2 5 i3_)), (0, .ref (h.2.2 0 0))]) hx hb dX4_goOneTick_47 hl (k := 3) rfl rfl (by decide) rfl (fun ls hl => ?_)
        refine lv_goto (tgt := 18) hx hb dX4_goOneTick_50 (by decide) ?_
        exact ih (v1 + z4.1) (v2 + 1) z4.2 z hF _ _ _ hW hS (lv_sub hl [3, 1, 0] rfl) kk
set_option maxHeartbeats 4000000 in
set_option maxRecDepth 100000 in
theorem kX4_goOneTick (l : Launch) (lo : Nat) (g : Gx) (h : Sh) (σ : Sg)   (r : Int32) (σ1 : Sg) (hF : FX4_goOneTick h.1 h.2.1 σ  = some (r, σ1)) : MI l yX4_goOneTick (ws_ yX4_goOneTick cX4_goOneTick 4 (some .int)) 5 127 0 0 lo g h [.ref (h.2.2 0 0)] σ r σ1 := by
  refine ofB (own := RX4) (by decide +kernel) rfl (fun p e s m below meth c C0 hr hlk hlo hK hZ hW hS ls hl => ?_) (Nat.le_of_ble_eq_true rfl)
  have hx := C0.1
  have hb := C0.2.1
  have hl : lv_has ls 4 [(0, .ref (h.2.2 0 0))] := hl
  unfold FX4_goOneTick at hF
  refine lv_aload_n hx hb dX4_goOneTick_0 rfl (lv_at hl 0 rfl) ?_
  refine lv_dup hx hb dX4_goOneTick_1 rfl ?_
  refine get0 C0 hK hW 0 (al0 h 0 (by decide)) 6 (by decide) wFL_X4_234 rfl rfl dX4_goOneTick_2 ?_
  refine lv_iconst (v := 1) hx hb dX4_goOneTick_5 (by decide) ?_
  refine lv_iadd hx hb dX4_goOneTick_6 ?_
  refine put0_6 C0 hK hW hS 0 (al0 h 0 (by decide)) wFL_X4_234 dX4_goOneTick_7 (fun H locs hW hS => ?_)
  refine lv_aload_n hx hb dX4_goOneTick_10 rfl (lv_at hl 0 rfl) ?_
  obtain ⟨z1, hz1, hF⟩ := bnd hF
  refine inV (runV C0 hlo hK hZ hW hS (kX4_shareBetweenCoupled l lo g h _   _ hz1) wCO_X4_shareBetweenCoupled wML_X4_297 wIM_X4_shareBetweenCoupled wSE_X4_X4_shareBetweenCoupled wIN_X4 hdX4_shareBetweenCoupled ⟨Nat.le_of_ble_eq_true rfl, Nat.le_of_ble_eq_true rfl⟩ (recvK hK hW (al0 h 0 (by decide)) (ct0 0) rfl) rfl hl.1 rfl (Nat.le_of_ble_eq_true rfl) dX4_goOneTick_11 ⟨Nat.le_of_ble_eq_true rfl, Nat.le_of_ble_eq_true rfl⟩) hS (fun H locs hW hS => ?_)
  refine lv_iconst (v := 0) hx hb dX4_goOneTick_14 (by decide) ?_
  refine lv_istore_n (lv' := [(1, .int 0), (0, .ref (h.2.2 0 0))]) hx hb dX4_goOneTick_15 rfl hl (by decide) rfl (fun ls hl => ?_)
  refine lv_iconst (v := 0) hx hb dX4_goOneTick_16 (by decide) ?_
  refine lv_istore_n (lv' := [(2, .int 0), (1, .int 0), (0, .ref (h.2.2 0 0))]) hx hb dX4_goOneTick_17 rfl hl (by decide) rfl (fun ls hl => ?_)
  obtain ⟨z5, hz5, hF⟩ := bnd hF
  refine lX4_goOneTick_18 C0 hlo hK hZ   _ 0 0 _ z5 hz5 _ _ _ hW hS (lv_sub hl [2, 1, 0] rfl) (fun H locs ls hW hS hl => ?_)
  refine lv_iload_n hx hb dX4_goOneTick_53 rfl (lv_at hl 0 rfl) ?_
  cases hF
  exact retI C0 hr hlk hW hS dX4_goOneTick_54
end
section
theorem hdX4_wind : yX4_wind.cls = RX4 ∧ yX4_wind.cls ≠ "java/lang/invoke/MethodHandle" ∧ yX4_wind.cls ≠ "java/lang/invoke/VarHandle" ∧ (parseMethodDescriptor yX4_wind.desc).map (fun d => d.parameters.length) = some 2 := by decide +kernel
def FX4_wind (ns nb : Nat) (σ : Sg) (a1 : Int32) (a2 : Int32) : Option ((Nat ⊕ Int32) × Sg) :=
  (FX4_springAt ns nb σ a1).bind fun z1 => oc z1.1 (some (.inl 1, z1.2)) (fun iz1 => if iz1 < ns then ((FX4_isIn ns nb z1.2 a2 1 200000).bind fun z2 => if z2.1 = 0 then (some (.inl 2, z2.2)) else (some (.inr ((sI z2.2 5 iz1 1 (mnI ((z2.2.1 5 iz1 1) + a2) 200000)).1 5 iz1 1), (sI z2.2 5 iz1 1 (mnI ((z2.2.1 5 iz1 1) + a2) 200000))))) else none)
set_option maxHeartbeats 4000000 in
set_option maxRecDepth 100000 in
theorem nX4_wind (l : Launch) (lo : Nat) (g : Gx) (h : Sh) (σ : Sg) (a1 : Int32) (a2 : Int32)  (r : Int32) (σ1 : Sg) (hF : FX4_wind h.1 h.2.1 σ a1 a2 = some (.inr r, σ1)) : MI l yX4_wind (ws_ yX4_wind cX4_wind 4 (some .int)) 1 23 0 0 lo g h [.ref (h.2.2 0 0), .int a1, .int a2] σ r σ1 := by
  refine ofB (own := RX4) (by decide +kernel) rfl (fun p e s m below meth c C0 hr hlk hlo hK hZ hW hS ls hl => ?_) (Nat.le_of_ble_eq_true rfl)
  have hx := C0.1
  have hb := C0.2.1
  have hl : lv_has ls 4 [(0, .ref (h.2.2 0 0)), (1, .int a1), (2, .int a2)] := hl
  unfold FX4_wind at hF
  refine lv_aload_n hx hb dX4_wind_0 rfl (lv_at hl 0 rfl) ?_
  refine lv_iload_n hx hb dX4_wind_1 rfl (lv_at hl 1 rfl) ?_
  obtain ⟨z1, hz1, hF⟩ := bnd hF
  refine inR (runV C0 hlo hK hZ hW hS (kX4_springAt l lo g h _ a1  _ _ hz1) wCO_X4_springAt wML_X4_51 wIM_X4_springAt wSE_X4_X4_springAt wIN_X4 hdX4_springAt ⟨Nat.le_of_ble_eq_true rfl, Nat.le_of_ble_eq_true rfl⟩ (recvK hK hW (al0 h 0 (by decide)) (ct0 0) rfl) rfl hl.1 rfl (Nat.le_of_ble_eq_true rfl) dX4_wind_2 ⟨Nat.le_of_ble_eq_true rfl, Nat.le_of_ble_eq_true rfl⟩) hS (fun H locs hW hS => ?_)
  refine nspl (fun nz1 => ?_) (fun iz1 nz1 => ?_)
  · rw [nz1, oc_n] at hF
    refine lv_astore_nN (lv' := [(3, .null), (0, .ref (h.2.2 0 0)), (1, .int a1), (2, .int a2)]) hx hb dX4_wind_5 rfl hl (by decide) rfl (fun ls hl => ?_)
    refine lv_aload_nN hx hb dX4_wind_6 rfl (lv_at hl 0 rfl) ?_
    refine lv_ifnonnullN hx hb dX4_wind_7 ?_
    cases hF
  · rw [nz1, oc_s] at hF
    obtain ⟨hiz1, hF⟩ := grp hF
    refine lv_astore_n (lv' := [(3, .ref (h.2.2 5 iz1)), (0, .ref (h.2.2 0 0)), (1, .int a1), (2, .int a2)]) hx hb dX4_wind_5 rfl hl (by decide) rfl (fun ls hl => ?_)
    refine lv_aload_n hx hb dX4_wind_6 rfl (lv_at hl 0 rfl) ?_
    refine lv_ifnonnull (tgt := 20) hx hb dX4_wind_7 (by decide) ?_
    refine lv_iload_n hx hb dX4_wind_20 rfl (lv_at hl 3 rfl) ?_
    refine lv_iconst (v := 1) hx hb dX4_wind_21 (by decide) ?_
    refine lv_ldc hx hb C0.2.2.2.1 (C0.2.2.2.2 _ wconstant_X4_60) dX4_wind_22 ?_
    obtain ⟨z2, hz2, hF⟩ := bnd hF
    refine inI (runS C0 hlo hK hZ hW hS (kX4_isIn l lo g h _ a2 1 200000  _ _ hz2) wCO_X4_isIn wML_X4_28 wST_X4_isIn wIN_X4 hdsX4_isIn ⟨Nat.le_of_ble_eq_true rfl, Nat.le_of_ble_eq_true rfl⟩ rfl hl.1 rfl (Nat.le_of_ble_eq_true rfl) dX4_wind_24 ⟨Nat.le_of_ble_eq_true rfl, Nat.le_of_ble_eq_true rfl⟩) hS (fun H locs hW hS => ?_)
    refine lv_if_ne (tgt := 40) hx hb dX4_wind_27 (by decide) (fun c3 => ?_) (fun c3 => ?_)
    · rw [if_neg c3] at hF
      refine lv_aload_n hx hb dX4_wind_40 rfl (lv_at hl 0 rfl) ?_
      refine lv_aload_n hx hb dX4_wind_41 rfl (lv_at hl 0 rfl) ?_
      refine get5 C0 hK hW iz1 (al5 hiz1) 1 (by decide) wFL_X4_63 rfl rfl dX4_wind_42 ?_
      refine lv_iload_n hx hb dX4_wind_45 rfl (lv_at hl 3 rfl) ?_
      refine lv_iadd hx hb dX4_wind_46 ?_
      refine lv_ldc hx hb C0.2.2.2.1 (C0.2.2.2.2 _ wconstant_X4_60) dX4_wind_47 ?_
      refine r_min C0 hl.1 wML_X4_66 (Nat.le_of_ble_eq_true rfl) (Nat.le_of_ble_eq_true rfl) (Nat.le_of_ble_eq_true rfl) (Nat.le_of_ble_eq_true rfl) dX4_wind_49 ?_
      refine put5_1 C0 hK hW hS iz1 (al5 hiz1) wFL_X4_63 dX4_wind_52 (fun H locs hW hS => ?_)
      refine lv_aload_n hx hb dX4_wind_55 rfl (lv_at hl 0 rfl) ?_
      refine get5 C0 hK hW iz1 (al5 hiz1) 1 (by decide) wFL_X4_63 rfl rfl dX4_wind_56 ?_
      cases hF
      exact retI C0 hr hlk hW hS dX4_wind_59
    · rw [if_pos c3] at hF
      cases hF
theorem hdX4_couple : yX4_couple.cls = RX4 ∧ yX4_couple.cls ≠ "java/lang/invoke/MethodHandle" ∧ yX4_couple.cls ≠ "java/lang/invoke/VarHandle" ∧ (parseMethodDescriptor yX4_couple.desc).map (fun d => d.parameters.length) = some 3 := by decide +kernel
def FX4_couple (ns nb : Nat) (σ : Sg) (a1 : Int32) (a2 : Int32) (a3 : Int32) : Option ((Nat ⊕ Int32) × Sg) :=
  (FX4_springAt ns nb σ a1).bind fun z1 => oc z1.1 (some (.inl 1, z1.2)) (fun iz1 => if iz1 < ns then ((FX4_springAt ns nb z1.2 a2).bind fun z2 => oc z2.1 (some (.inl 1, z2.2)) (fun iz2 => if iz2 < ns then (if a1 = a2 then (some (.inl 2, z2.2)) else ((FX4_pairBit ns nb z2.2 a1 a2).bind fun z4 => if a3 = 0 then ((FJ6_bitCount_0f7a4 ns nb (sI z4.2 0 0 5 ((z4.2.1 0 0 5) &&& (z4.1 ^^^ (-1)))) ((sI z4.2 0 0 5 ((z4.2.1 0 0 5) &&& (z4.1 ^^^ (-1)))).1 0 0 5)).bind fun z6 => some (.inr z6.1, z6.2)) else ((FJ6_bitCount_0f7a4 ns nb (sI z4.2 0 0 5 ((z4.2.1 0 0 5) ||| z4.1)) ((sI z4.2 0 0 5 ((z4.2.1 0 0 5) ||| z4.1)).1 0 0 5)).bind fun z7 => some (.inr z7.1, z7.2)))) else none)) else none)
set_option maxHeartbeats 4000000 in
set_option maxRecDepth 100000 in
theorem nX4_couple (l : Launch) (lo : Nat) (g : Gx) (h : Sh) (σ : Sg) (a1 : Int32) (a2 : Int32) (a3 : Int32)  (r : Int32) (σ1 : Sg) (hF : FX4_couple h.1 h.2.1 σ a1 a2 a3 = some (.inr r, σ1)) : MI l yX4_couple (ws_ yX4_couple cX4_couple 5 (some .int)) 2 44 0 0 lo g h [.ref (h.2.2 0 0), .int a1, .int a2, .int a3] σ r σ1 := by
  refine ofB (own := RX4) (by decide +kernel) rfl (fun p e s m below meth c C0 hr hlk hlo hK hZ hW hS ls hl => ?_) (Nat.le_of_ble_eq_true rfl)
  have hx := C0.1
  have hb := C0.2.1
  have hl : lv_has ls 5 [(0, .ref (h.2.2 0 0)), (1, .int a1), (2, .int a2), (3, .int a3)] := hl
  unfold FX4_couple at hF
  refine lv_aload_n hx hb dX4_couple_0 rfl (lv_at hl 0 rfl) ?_
  refine lv_iload_n hx hb dX4_couple_1 rfl (lv_at hl 1 rfl) ?_
  obtain ⟨z1, hz1, hF⟩ := bnd hF
  refine inR (runV C0 hlo hK hZ hW hS (kX4_springAt l lo g h _ a1  _ _ hz1) wCO_X4_springAt wML_X4_51 wIM_X4_springAt wSE_X4_X4_springAt wIN_X4 hdX4_springAt ⟨Nat.le_of_ble_eq_true rfl, Nat.le_of_ble_eq_true rfl⟩ (recvK hK hW (al0 h 0 (by decide)) (ct0 0) rfl) rfl hl.1 rfl (Nat.le_of_ble_eq_true rfl) dX4_couple_2 ⟨Nat.le_of_ble_eq_true rfl, Nat.le_of_ble_eq_true rfl⟩) hS (fun H locs hW hS => ?_)
  refine nspl (fun nz1 => ?_) (fun iz1 nz1 => ?_)
  · rw [nz1, oc_n] at hF
    refine lv_ifnullN (tgt := 16) hx hb dX4_couple_5 (by decide) ?_
    cases hF
  · rw [nz1, oc_s] at hF
    obtain ⟨hiz1, hF⟩ := grp hF
    refine lv_ifnull hx hb dX4_couple_5 ?_
    refine lv_aload_n hx hb dX4_couple_8 rfl (lv_at hl 0 rfl) ?_
    refine lv_iload_n hx hb dX4_couple_9 rfl (lv_at hl 2 rfl) ?_
    obtain ⟨z2, hz2, hF⟩ := bnd hF
    refine inR (runV C0 hlo hK hZ hW hS (kX4_springAt l lo g h _ a2  _ _ hz2) wCO_X4_springAt wML_X4_51 wIM_X4_springAt wSE_X4_X4_springAt wIN_X4 hdX4_springAt ⟨Nat.le_of_ble_eq_true rfl, Nat.le_of_ble_eq_true rfl⟩ (recvK hK hW (al0 h 0 (by decide)) (ct0 0) rfl) rfl hl.1 rfl (Nat.le_of_ble_eq_true rfl) dX4_couple_10 ⟨Nat.le_of_ble_eq_true rfl, Nat.le_of_ble_eq_true rfl⟩) hS (fun H locs hW hS => ?_)
    refine nspl (fun nz2 => ?_) (fun iz2 nz2 => ?_)
    · rw [nz2, oc_n] at hF
      refine lv_ifnonnullN hx hb dX4_couple_13 ?_
      cases hF
    · rw [nz2, oc_s] at hF
      obtain ⟨hiz2, hF⟩ := grp hF
      refine lv_ifnonnull (tgt := 26) hx hb dX4_couple_13 (by decide) ?_
      refine lv_iload_n hx hb dX4_couple_26 rfl (lv_at hl 1 rfl) ?_
      refine lv_iload_n hx hb dX4_couple_27 rfl (lv_at hl 2 rfl) ?_
      refine lv_icmp_ne (tgt := 41) hx hb dX4_couple_28 (by decide) (fun c3 => ?_) (fun c3 => ?_)
      · rw [if_neg c3] at hF
        refine lv_iload_n hx hb dX4_couple_41 rfl (lv_at hl 1 rfl) ?_
        refine lv_iload_n hx hb dX4_couple_42 rfl (lv_at hl 2 rfl) ?_
        obtain ⟨z4, hz4, hF⟩ := bnd hF
        refine inI (runS C0 hlo hK hZ hW hS (kX4_pairBit l lo g h _ a1 a2  _ _ hz4) wCO_X4_pairBit wML_X4_78 wST_X4_pairBit wIN_X4 hdsX4_pairBit ⟨Nat.le_of_ble_eq_true rfl, Nat.le_of_ble_eq_true rfl⟩ rfl hl.1 rfl (Nat.le_of_ble_eq_true rfl) dX4_couple_43 ⟨Nat.le_of_ble_eq_true rfl, Nat.le_of_ble_eq_true rfl⟩) hS (fun H locs hW hS => ?_)
        refine lv_istore (lv' := [(4, .int z4.1), (0, .ref (h.2.2 0 0)), (1, .int a1), (2, .int a2), (3, .int a3)]) hx hb dX4_couple_46 hl (by decide) rfl (fun ls hl => ?_)
        refine lv_aload_n hx hb dX4_couple_48 rfl (lv_at hl 1 rfl) ?_
        refine lv_iload_n hx hb dX4_couple_49 rfl (lv_at hl 4 rfl) ?_
        refine lv_if_eq (tgt := 63) hx hb dX4_couple_50 (by decide) (fun c5 => ?_) (fun c5 => ?_)
        · rw [if_pos c5] at hF
          refine lv_aload_n hx hb dX4_couple_63 rfl (lv_at hl 1 rfl) ?_
          refine get0 C0 hK hW 0 (al0 h 0 (by decide)) 5 (by decide) wFL_X4_81 rfl rfl dX4_couple_64 ?_
          refine lv_iload hx hb dX4_couple_67 (lv_at hl 0 rfl) ?_
          refine lv_iconst (v := (-1)) hx hb dX4_couple_69 (by decide) ?_
          refine lv_ixor hx hb dX4_couple_70 ?_
          refine lv_iand hx hb dX4_couple_71 ?_
          refine put0_5 C0 hK hW hS 0 (al0 h 0 (by decide)) wFL_X4_81 dX4_couple_72 (fun H locs hW hS => ?_)
          refine lv_aload_n hx hb dX4_couple_75 rfl (lv_at hl 1 rfl) ?_
          refine get0 C0 hK hW 0 (al0 h 0 (by decide)) 5 (by decide) wFL_X4_81 rfl rfl dX4_couple_76 ?_
          obtain ⟨z6, hz6, hF⟩ := bnd hF
          refine inI (runS C0 hlo hK hZ hW hS (kJ6_bitCount_0f7a4 l lo g h _ ((sI z4.2 0 0 5 ((z4.2.1 0 0 5) &&& (z4.1 ^^^ (-1)))).1 0 0 5)  _ _ hz6) wCO_J6_bitCount_0f7a4 wML_X4_84 wST_J6_bitCount_0f7a4 wIN_J6 hdsJ6_bitCount_0f7a4 ⟨Nat.le_of_ble_eq_true rfl, Nat.le_of_ble_eq_true rfl⟩ rfl hl.1 rfl (Nat.le_of_ble_eq_true rfl) dX4_couple_79 ⟨Nat.le_of_ble_eq_true rfl, Nat.le_of_ble_eq_true rfl⟩) hS (fun H locs hW hS => ?_)
          cases hF
          exact retI C0 hr hlk hW hS dX4_couple_82
        · rw [if_neg c5] at hF
          refine lv_aload_n hx hb dX4_couple_53 rfl (lv_at hl 1 rfl) ?_
          refine get0 C0 hK hW 0 (al0 h 0 (by decide)) 5 (by decide) wFL_X4_81 rfl rfl dX4_couple_54 ?_
          refine lv_iload hx hb dX4_couple_57 (lv_at hl 0 rfl) ?_
          refine lv_ior hx hb dX4_couple_59 ?_
          refine lv_goto (tgt := 72) hx hb dX4_couple_60 (by decide) ?_
          refine put0_5 C0 hK hW hS 0 (al0 h 0 (by decide)) wFL_X4_81 dX4_couple_72 (fun H locs hW hS => ?_)
          refine lv_aload_n hx hb dX4_couple_75 rfl (lv_at hl 1 rfl) ?_
          refine get0 C0 hK hW 0 (al0 h 0 (by decide)) 5 (by decide) wFL_X4_81 rfl rfl dX4_couple_76 ?_
          obtain ⟨z7, hz7, hF⟩ := bnd hF
          refine inI (runS C0 hlo hK hZ hW hS (kJ6_bitCount_0f7a4 l lo g h _ ((sI z4.2 0 0 5 ((z4.2.1 0 0 5) ||| z4.1)).1 0 0 5)  _ _ hz7) wCO_J6_bitCount_0f7a4 wML_X4_84 wST_J6_bitCount_0f7a4 wIN_J6 hdsJ6_bitCount_0f7a4 ⟨Nat.le_of_ble_eq_true rfl, Nat.le_of_ble_eq_true rfl⟩ rfl hl.1 rfl (Nat.le_of_ble_eq_true rfl) dX4_couple_79 ⟨Nat.le_of_ble_eq_true rfl, Nat.le_of_ble_eq_true rfl⟩) hS (fun H locs hW hS => ?_)
          cases hF
          exact retI C0 hr hlk hW hS dX4_couple_82
      · rw [if_pos c3] at hF
        cases hF
theorem hdX4_spring : yX4_spring.cls = RX4 ∧ yX4_spring.cls ≠ "java/lang/invoke/MethodHandle" ∧ yX4_spring.cls ≠ "java/lang/invoke/VarHandle" ∧ (parseMethodDescriptor yX4_spring.desc).map (fun d => d.parameters.length) = some 2 := by decide +kernel
def FX4_spring (ns nb : Nat) (σ : Sg) (a1 : Int32) (a2 : Int32) : Option ((Nat ⊕ Int32) × Sg) :=
  (FX4_springAt ns nb σ a1).bind fun z1 => oc z1.1 (some (.inl 1, z1.2)) (fun iz1 => if iz1 < ns then (if a2 = 0 then (some (.inr (z1.2.1 5 iz1 0), z1.2)) else (if a2 = 1 then (some (.inr (z1.2.1 5 iz1 1), z1.2)) else (if a2 = 2 then (some (.inr ((z1.2.2 5 iz1 2).toInt32), z1.2)) else (if a2 = 3 then (some (.inr (z1.2.1 5 iz1 3), z1.2)) else (if a2 = 4 then (if (z1.2.1 5 iz1 4) = 0 then (some (.inr 0, z1.2)) else (some (.inr 1, z1.2))) else (if a2 = 5 then ((FX4_birdsDrivenBy ns nb z1.2 a1).bind fun z8 => some (.inr z8.1, z8.2)) else (if a2 = 6 then ((FX4_loadOn ns nb z1.2 a1).bind fun z10 => some (.inr z10.1, z10.2)) else (some (.inl 1, z1.2))))))))) else none)
set_option maxHeartbeats 4000000 in
set_option maxRecDepth 100000 in
theorem nX4_spring (l : Launch) (lo : Nat) (g : Gx) (h : Sh) (σ : Sg) (a1 : Int32) (a2 : Int32)  (r : Int32) (σ1 : Sg) (hF : FX4_spring h.1 h.2.1 σ a1 a2 = some (.inr r, σ1)) : MI l yX4_spring (ws_ yX4_spring cX4_spring 4 (some .int)) 4 94 0 0 lo g h [.ref (h.2.2 0 0), .int a1, .int a2] σ r σ1 := by
  refine ofB (own := RX4) (by decide +kernel) rfl (fun p e s m below meth c C0 hr hlk hlo hK hZ hW hS ls hl => ?_) (Nat.le_of_ble_eq_true rfl)
  have hx := C0.1
  have hb := C0.2.1
  have hl : lv_has ls 4 [(0, .ref (h.2.2 0 0)), (1, .int a1), (2, .int a2)] := hl
  unfold FX4_spring at hF
  refine lv_aload_n hx hb dX4_spring_0 rfl (lv_at hl 0 rfl) ?_
  refine lv_iload_n hx hb dX4_spring_1 rfl (lv_at hl 1 rfl) ?_
  obtain ⟨z1, hz1, hF⟩ := bnd hF
  refine inR (runV C0 hlo hK hZ hW hS (kX4_springAt l lo g h _ a1  _ _ hz1) wCO_X4_springAt wML_X4_51 wIM_X4_springAt wSE_X4_X4_springAt wIN_X4 hdX4_springAt ⟨Nat.le_of_ble_eq_true rfl, Nat.le_of_ble_eq_true rfl⟩ (recvK hK hW (al0 h 0 (by decide)) (ct0 0) rfl) rfl hl.1 rfl (Nat.le_of_ble_eq_true rfl) dX4_spring_2 ⟨Nat.le_of_ble_eq_true rfl, Nat.le_of_ble_eq_true rfl⟩) hS (fun H locs hW hS => ?_)
  refine nspl (fun nz1 => ?_) (fun iz1 nz1 => ?_)
  · rw [nz1, oc_n] at hF
    refine lv_astore_nN (lv' := [(3, .null), (0, .ref (h.2.2 0 0)), (1, .int a1), (2, .int a2)]) hx hb dX4_spring_5 rfl hl (by decide) rfl (fun ls hl => ?_)
    refine lv_aload_nN hx hb dX4_spring_6 rfl (lv_at hl 0 rfl) ?_
    refine lv_ifnonnullN hx hb dX4_spring_7 ?_
    cases hF
  · rw [nz1, oc_s] at hF
    obtain ⟨hiz1, hF⟩ := grp hF
    refine lv_astore_n (lv' := [(3, .ref (h.2.2 5 iz1)), (0, .ref (h.2.2 0 0)), (1, .int a1), (2, .int a2)]) hx hb dX4_spring_5 rfl hl (by decide) rfl (fun ls hl => ?_)
    refine lv_aload_n hx hb dX4_spring_6 rfl (lv_at hl 0 rfl) ?_
    refine lv_ifnonnull (tgt := 20) hx hb dX4_spring_7 (by decide) ?_
    refine lv_iload_n hx hb dX4_spring_20 rfl (lv_at hl 3 rfl) ?_
    by_cases c2 : a2 = 0
    · rw [if_pos c2] at hF
      refine lv_tableIn (tgt := 64) (off := 43) hx hb dX4_spring_21 (by rw [c2]; decide) (by rw [c2]; decide) (by rw [c2]; decide) (by decide) ?_
      refine lv_aload_n hx hb dX4_spring_64 rfl (lv_at hl 0 rfl) ?_
      refine get5 C0 hK hW iz1 (al5 hiz1) 0 (by decide) wFL_X4_90 rfl rfl dX4_spring_65 ?_
      cases hF
      exact retI C0 hr hlk hW hS dX4_spring_68
    · rw [if_neg c2] at hF
      by_cases c3 : a2 = 1
      · rw [if_pos c3] at hF
        refine lv_tableIn (tgt := 69) (off := 48) hx hb dX4_spring_21 (by rw [c3]; decide) (by rw [c3]; decide) (by rw [c3]; decide) (by decide) ?_
        refine lv_aload_n hx hb dX4_spring_69 rfl (lv_at hl 0 rfl) ?_
        refine get5 C0 hK hW iz1 (al5 hiz1) 1 (by decide) wFL_X4_63 rfl rfl dX4_spring_70 ?_
        cases hF
        exact retI C0 hr hlk hW hS dX4_spring_73
      · rw [if_neg c3] at hF
        by_cases c4 : a2 = 2
        · rw [if_pos c4] at hF
          refine lv_tableIn (tgt := 74) (off := 53) hx hb dX4_spring_21 (by rw [c4]; decide) (by rw [c4]; decide) (by rw [c4]; decide) (by decide) ?_
          refine lv_aload_n hx hb dX4_spring_74 rfl (lv_at hl 0 rfl) ?_
          refine get5 C0 hK hW iz1 (al5 hiz1) 2 (by decide) wFL_X4_93 rfl rfl dX4_spring_75 ?_
          refine lv_l2i hx hb dX4_spring_78 rfl ?_
          cases hF
          exact retI C0 hr hlk hW hS dX4_spring_79
        · rw [if_neg c4] at hF
          by_cases c5 : a2 = 3
          · rw [if_pos c5] at hF
            refine lv_tableIn (tgt := 80) (off := 59) hx hb dX4_spring_21 (by rw [c5]; decide) (by rw [c5]; decide) (by rw [c5]; decide) (by decide) ?_
            refine lv_aload_n hx hb dX4_spring_80 rfl (lv_at hl 0 rfl) ?_
            refine get5 C0 hK hW iz1 (al5 hiz1) 3 (by decide) wFL_X4_97 rfl rfl dX4_spring_81 ?_
            cases hF
            exact retI C0 hr hlk hW hS dX4_spring_84
          · rw [if_neg c5] at hF
            by_cases c7 : a2 = 4
            · rw [if_pos c7] at hF
              refine lv_tableIn (tgt := 85) (off := 64) hx hb dX4_spring_21 (by rw [c7]; decide) (by rw [c7]; decide) (by rw [c7]; decide) (by decide) ?_
              refine lv_aload_n hx hb dX4_spring_85 rfl (lv_at hl 0 rfl) ?_
              refine get5 C0 hK hW iz1 (al5 hiz1) 4 (by decide) wFL_X4_72 rfl rfl dX4_spring_86 ?_
              refine lv_if_eq (tgt := 96) hx hb dX4_spring_89 (by decide) (fun c6 => ?_) (fun c6 => ?_)
              · rw [if_pos c6] at hF
                refine lv_iconst (v := 0) hx hb dX4_spring_96 (by decide) ?_
                cases hF
                exact retI C0 hr hlk hW hS dX4_spring_97
              · rw [if_neg c6] at hF
                refine lv_iconst (v := 1) hx hb dX4_spring_92 (by decide) ?_
                refine lv_goto (tgt := 97) hx hb dX4_spring_93 (by decide) ?_
                cases hF
                exact retI C0 hr hlk hW hS dX4_spring_97
            · rw [if_neg c7] at hF
              by_cases c9 : a2 = 5
              · rw [if_pos c9] at hF
                refine lv_tableIn (tgt := 98) (off := 77) hx hb dX4_spring_21 (by rw [c9]; decide) (by rw [c9]; decide) (by rw [c9]; decide) (by decide) ?_
                refine lv_aload_n hx hb dX4_spring_98 rfl (lv_at hl 1 rfl) ?_
                refine lv_iload_n hx hb dX4_spring_99 rfl (lv_at hl 2 rfl) ?_
                obtain ⟨z8, hz8, hF⟩ := bnd hF
                refine inI (runV C0 hlo hK hZ hW hS (kX4_birdsDrivenBy l lo g h _ a1  _ _ hz8) wCO_X4_birdsDrivenBy wML_X4_100 wIM_X4_birdsDrivenBy wSE_X4_X4_birdsDrivenBy wIN_X4 hdX4_birdsDrivenBy ⟨Nat.le_of_ble_eq_true rfl, Nat.le_of_ble_eq_true rfl⟩ (recvK hK hW (al0 h 0 (by decide)) (ct0 0) rfl) rfl hl.1 rfl (Nat.le_of_ble_eq_true rfl) dX4_spring_100 ⟨Nat.le_of_ble_eq_true rfl, Nat.le_of_ble_eq_true rfl⟩) hS (fun H locs hW hS => ?_)
                cases hF
                exact retI C0 hr hlk hW hS dX4_spring_103
              · rw [if_neg c9] at hF
                by_cases c11 : a2 = 6
                · rw [if_pos c11] at hF
                  refine lv_tableIn (tgt := 104) (off := 83) hx hb dX4_spring_21 (by rw [c11]; decide) (by rw [c11]; decide) (by rw [c11]; decide) (by decide) ?_
                  refine lv_aload_n hx hb dX4_spring_104 rfl (lv_at hl 1 rfl) ?_
                  refine lv_iload_n hx hb dX4_spring_105 rfl (lv_at hl 2 rfl) ?_
                  obtain ⟨z10, hz10, hF⟩ := bnd hF
                  refine inI (runV C0 hlo hK hZ hW hS (kX4_loadOn l lo g h _ a1  _ _ hz10) wCO_X4_loadOn wML_X4_103 wIM_X4_loadOn wSE_X4_X4_loadOn wIN_X4 hdX4_loadOn ⟨Nat.le_of_ble_eq_true rfl, Nat.le_of_ble_eq_true rfl⟩ (recvK hK hW (al0 h 0 (by decide)) (ct0 0) rfl) rfl hl.1 rfl (Nat.le_of_ble_eq_true rfl) dX4_spring_106 ⟨Nat.le_of_ble_eq_true rfl, Nat.le_of_ble_eq_true rfl⟩) hS (fun H locs hW hS => ?_)
                  cases hF
                  exact retI C0 hr hlk hW hS dX4_spring_109
                · rw [if_neg c11] at hF
                  have t0 := lv_neT c2 (a := 0) (by decide)
                  have t1 := lv_neT c3 (a := 1) (by decide)
                  have t2 := lv_neT c4 (a := 2) (by decide)
                  have t3 := lv_neT c5 (a := 3) (by decide)
                  have t4 := lv_neT c7 (a := 4) (by decide)
                  have t5 := lv_neT c9 (a := 5) (by decide)
                  have t6 := lv_neT c11 (a := 6) (by decide)
                  refine lv_tableOut (tgt := 110) hx hb dX4_spring_21 (by omega) (by decide) ?_
                  cases hF
theorem hdX4_pin : yX4_pin.cls = RX4 ∧ yX4_pin.cls ≠ "java/lang/invoke/MethodHandle" ∧ yX4_pin.cls ≠ "java/lang/invoke/VarHandle" ∧ (parseMethodDescriptor yX4_pin.desc).map (fun d => d.parameters.length) = some 3 := by decide +kernel
def FX4_pin (ns nb : Nat) (σ : Sg) (a1 : Int32) (a2 : Int32) (a3 : Int32) : Option ((Nat ⊕ Int32) × Sg) :=
  (FX4_birdAt ns nb σ a1).bind fun z1 => oc z1.1 (some (.inl 1, z1.2)) (fun iz1 => if iz1 < nb then ((FX0_hasPlace ns nb z1.2 iz1 a2).bind fun z2 => if z2.1 = 0 then (some (.inl 2, z2.2)) else ((FX4_isIn ns nb z2.2 a3 0 5).bind fun z4 => if z4.1 = 0 then (some (.inl 2, z4.2)) else ((FX0_hasPin ns nb z4.2 iz1 a2 a3).bind fun z6 => if z6.1 = 0 then (if (z6.2.1 6 iz1 8) < 24 then ((FX0_turnPin ns nb z6.2 iz1 a2 a3).bind fun z10 => some (.inr (z10.1 6 iz1 8), z10)) else (some (.inl 3, z6.2))) else ((FX0_turnPin ns nb z6.2 iz1 a2 a3).bind fun z8 => some (.inr (z8.1 6 iz1 8), z8))))) else none)
set_option maxHeartbeats 4000000 in
set_option maxRecDepth 100000 in
theorem nX4_pin (l : Launch) (lo : Nat) (g : Gx) (h : Sh) (σ : Sg) (a1 : Int32) (a2 : Int32) (a3 : Int32)  (r : Int32) (σ1 : Sg) (hF : FX4_pin h.1 h.2.1 σ a1 a2 a3 = some (.inr r, σ1)) : MI l yX4_pin (ws_ yX4_pin cX4_pin 5 (some .int)) 3 65 0 0 lo g h [.ref (h.2.2 0 0), .int a1, .int a2, .int a3] σ r σ1 := by
  refine ofB (own := RX4) (by decide +kernel) rfl (fun p e s m below meth c C0 hr hlk hlo hK hZ hW hS ls hl => ?_) (Nat.le_of_ble_eq_true rfl)
  have hx := C0.1
  have hb := C0.2.1
  have hl : lv_has ls 5 [(0, .ref (h.2.2 0 0)), (1, .int a1), (2, .int a2), (3, .int a3)] := hl
  unfold FX4_pin at hF
  refine lv_aload_n hx hb dX4_pin_0 rfl (lv_at hl 0 rfl) ?_
  refine lv_iload_n hx hb dX4_pin_1 rfl (lv_at hl 1 rfl) ?_
  obtain ⟨z1, hz1, hF⟩ := bnd hF
  refine inR (runV C0 hlo hK hZ hW hS (kX4_birdAt l lo g h _ a1  _ _ hz1) wCO_X4_birdAt wML_X4_122 wIM_X4_birdAt wSE_X4_X4_birdAt wIN_X4 hdX4_birdAt ⟨Nat.le_of_ble_eq_true rfl, Nat.le_of_ble_eq_true rfl⟩ (recvK hK hW (al0 h 0 (by decide)) (ct0 0) rfl) rfl hl.1 rfl (Nat.le_of_ble_eq_true rfl) dX4_pin_2 ⟨Nat.le_of_ble_eq_true rfl, Nat.le_of_ble_eq_true rfl⟩) hS (fun H locs hW hS => ?_)
  refine nspl (fun nz1 => ?_) (fun iz1 nz1 => ?_)
  · rw [nz1, oc_n] at hF
    refine lv_astoreN (lv' := [(4, .null), (0, .ref (h.2.2 0 0)), (1, .int a1), (2, .int a2), (3, .int a3)]) hx hb dX4_pin_5 hl (by decide) rfl (fun ls hl => ?_)
    refine lv_aloadN hx hb dX4_pin_7 (lv_at hl 0 rfl) ?_
    refine lv_ifnonnullN hx hb dX4_pin_9 ?_
    cases hF
  · rw [nz1, oc_s] at hF
    obtain ⟨hiz1, hF⟩ := grp hF
    refine lv_astore (lv' := [(4, .ref (h.2.2 6 iz1)), (0, .ref (h.2.2 0 0)), (1, .int a1), (2, .int a2), (3, .int a3)]) hx hb dX4_pin_5 hl (by decide) rfl (fun ls hl => ?_)
    refine lv_aload hx hb dX4_pin_7 (lv_at hl 0 rfl) ?_
    refine lv_ifnonnull (tgt := 22) hx hb dX4_pin_9 (by decide) ?_
    refine lv_aload hx hb dX4_pin_22 (lv_at hl 0 rfl) ?_
    refine lv_iload_n hx hb dX4_pin_24 rfl (lv_at hl 3 rfl) ?_
    obtain ⟨z2, hz2, hF⟩ := bnd hF
    refine inI (runV C0 hlo hK hZ hW hS (kX0_hasPlace l lo g h _ iz1 a2 hiz1 _ _ hz2) wCO_X0_hasPlace wML_X4_138 wIM_X0_hasPlace wSE_X0_X0_hasPlace wIN_X0 hdX0_hasPlace ⟨Nat.le_of_ble_eq_true rfl, Nat.le_of_ble_eq_true rfl⟩ (recvK hK hW (al6 6 hiz1 (by decide)) (ct6 iz1) rfl) rfl hl.1 rfl (Nat.le_of_ble_eq_true rfl) dX4_pin_25 ⟨Nat.le_of_ble_eq_true rfl, Nat.le_of_ble_eq_true rfl⟩) hS (fun H locs hW hS => ?_)
    refine lv_if_ne (tgt := 41) hx hb dX4_pin_28 (by decide) (fun c3 => ?_) (fun c3 => ?_)
    · rw [if_neg c3] at hF
      refine lv_iload_n hx hb dX4_pin_41 rfl (lv_at hl 4 rfl) ?_
      refine lv_iconst (v := 0) hx hb dX4_pin_42 (by decide) ?_
      refine lv_iconst (v := 5) hx hb dX4_pin_43 (by decide) ?_
      obtain ⟨z4, hz4, hF⟩ := bnd hF
      refine inI (runS C0 hlo hK hZ hW hS (kX4_isIn l lo g h _ a3 0 5  _ _ hz4) wCO_X4_isIn wML_X4_28 wST_X4_isIn wIN_X4 hdsX4_isIn ⟨Nat.le_of_ble_eq_true rfl, Nat.le_of_ble_eq_true rfl⟩ rfl hl.1 rfl (Nat.le_of_ble_eq_true rfl) dX4_pin_44 ⟨Nat.le_of_ble_eq_true rfl, Nat.le_of_ble_eq_true rfl⟩) hS (fun H locs hW hS => ?_)
      refine lv_if_ne (tgt := 60) hx hb dX4_pin_47 (by decide) (fun c5 => ?_) (fun c5 => ?_)
      · rw [if_neg c5] at hF
        refine lv_aload hx hb dX4_pin_60 (lv_at hl 0 rfl) ?_
        refine lv_iload_n hx hb dX4_pin_62 rfl (lv_at hl 3 rfl) ?_
        refine lv_iload_n hx hb dX4_pin_63 rfl (lv_at hl 4 rfl) ?_
        obtain ⟨z6, hz6, hF⟩ := bnd hF
        refine inI (runV C0 hlo hK hZ hW hS (kX0_hasPin l lo g h _ iz1 a2 a3 hiz1 _ _ hz6) wCO_X0_hasPin wML_X4_146 wIM_X0_hasPin wSE_X0_X0_hasPin wIN_X0 hdX0_hasPin ⟨Nat.le_of_ble_eq_true rfl, Nat.le_of_ble_eq_true rfl⟩ (recvK hK hW (al6 6 hiz1 (by decide)) (ct6 iz1) rfl) rfl hl.1 rfl (Nat.le_of_ble_eq_true rfl) dX4_pin_64 ⟨Nat.le_of_ble_eq_true rfl, Nat.le_of_ble_eq_true rfl⟩) hS (fun H locs hW hS => ?_)
        refine lv_if_ne (tgt := 90) hx hb dX4_pin_67 (by decide) (fun c7 => ?_) (fun c7 => ?_)
        · rw [if_neg c7] at hF
          refine lv_aload hx hb dX4_pin_90 (lv_at hl 0 rfl) ?_
          refine lv_iload_n hx hb dX4_pin_92 rfl (lv_at hl 3 rfl) ?_
          refine lv_iload_n hx hb dX4_pin_93 rfl (lv_at hl 4 rfl) ?_
          obtain ⟨z8, hz8, hF⟩ := bnd hF
          refine inV (runV C0 hlo hK hZ hW hS (kX0_turnPin l lo g h _ iz1 a2 a3 hiz1 _ hz8) wCO_X0_turnPin wML_X4_155 wIM_X0_turnPin wSE_X0_X0_turnPin wIN_X0 hdX0_turnPin ⟨Nat.le_of_ble_eq_true rfl, Nat.le_of_ble_eq_true rfl⟩ (recvK hK hW (al6 6 hiz1 (by decide)) (ct6 iz1) rfl) rfl hl.1 rfl (Nat.le_of_ble_eq_true rfl) dX4_pin_94 ⟨Nat.le_of_ble_eq_true rfl, Nat.le_of_ble_eq_true rfl⟩) hS (fun H locs hW hS => ?_)
          refine lv_aload hx hb dX4_pin_97 (lv_at hl 0 rfl) ?_
          refine get6 C0 hK hW iz1 (al6 6 hiz1 (by decide)) 8 (by decide) wFL_X4_150 rfl rfl dX4_pin_99 ?_
          cases hF
          exact retI C0 hr hlk hW hS dX4_pin_102
        · rw [if_pos c7] at hF
          refine lv_aload hx hb dX4_pin_70 (lv_at hl 0 rfl) ?_
          refine get6 C0 hK hW iz1 (al6 6 hiz1 (by decide)) 8 (by decide) wFL_X4_150 rfl rfl dX4_pin_72 ?_
          refine lv_bipush (v := 24) hx hb dX4_pin_75 (by decide) ?_
          refine lv_icmp_lt (tgt := 90) hx hb dX4_pin_77 (by decide) (fun c9 => ?_) (fun c9 => ?_)
          · rw [if_pos c9] at hF
            refine lv_aload hx hb dX4_pin_90 (lv_at hl 0 rfl) ?_
            refine lv_iload_n hx hb dX4_pin_92 rfl (lv_at hl 3 rfl) ?_
            refine lv_iload_n hx hb dX4_pin_93 rfl (lv_at hl 4 rfl) ?_
            obtain ⟨z10, hz10, hF⟩ := bnd hF
            refine inV (runV C0 hlo hK hZ hW hS (kX0_turnPin l lo g h _ iz1 a2 a3 hiz1 _ hz10) wCO_X0_turnPin wML_X4_155 wIM_X0_turnPin wSE_X0_X0_turnPin wIN_X0 hdX0_turnPin ⟨Nat.le_of_ble_eq_true rfl, Nat.le_of_ble_eq_true rfl⟩ (recvK hK hW (al6 6 hiz1 (by decide)) (ct6 iz1) rfl) rfl hl.1 rfl (Nat.le_of_ble_eq_true rfl) dX4_pin_94 ⟨Nat.le_of_ble_eq_true rfl, Nat.le_of_ble_eq_true rfl⟩) hS (fun H locs hW hS => ?_)
            refine lv_aload hx hb dX4_pin_97 (lv_at hl 0 rfl) ?_
            refine get6 C0 hK hW iz1 (al6 6 hiz1 (by decide)) 8 (by decide) wFL_X4_150 rfl rfl dX4_pin_99 ?_
            cases hF
            exact retI C0 hr hlk hW hS dX4_pin_102
          · rw [if_neg c9] at hF
            cases hF
      · rw [if_pos c5] at hF
        cases hF
    · rw [if_pos c3] at hF
      cases hF
theorem hdX4_tune : yX4_tune.cls = RX4 ∧ yX4_tune.cls ≠ "java/lang/invoke/MethodHandle" ∧ yX4_tune.cls ≠ "java/lang/invoke/VarHandle" ∧ (parseMethodDescriptor yX4_tune.desc).map (fun d => d.parameters.length) = some 3 := by decide +kernel
def FX4_tune (ns nb : Nat) (σ : Sg) (a1 : Int32) (a2 : Int32) (a3 : Int32) : Option ((Nat ⊕ Int32) × Sg) :=
  (FX4_birdAt ns nb σ a1).bind fun z1 => oc z1.1 (some (.inl 1, z1.2)) (fun iz1 => if iz1 < nb then ((FX4_isIn ns nb z1.2 a2 0 5).bind fun z2 => if z2.1 = 0 then (some (.inl 1, z2.2)) else ((FX4_isIn ns nb z2.2 a3 0 87).bind fun z4 => if z4.1 = 0 then (some (.inl 2, z4.2)) else ((FX4_at ns nb z4.2 8 iz1 a2).bind fun z6 => (FX4_put ns nb z6.2 8 iz1 a2 a3).bind fun z7 => some (.inr z6.1, z7)))) else none)
set_option maxHeartbeats 4000000 in
set_option maxRecDepth 100000 in
theorem nX4_tune (l : Launch) (lo : Nat) (g : Gx) (h : Sh) (σ : Sg) (a1 : Int32) (a2 : Int32) (a3 : Int32)  (r : Int32) (σ1 : Sg) (hF : FX4_tune h.1 h.2.1 σ a1 a2 a3 = some (.inr r, σ1)) : MI l yX4_tune (ws_ yX4_tune cX4_tune 6 (some .int)) 1 22 0 0 lo g h [.ref (h.2.2 0 0), .int a1, .int a2, .int a3] σ r σ1 := by
  refine ofB (own := RX4) (by decide +kernel) rfl (fun p e s m below meth c C0 hr hlk hlo hK hZ hW hS ls hl => ?_) (Nat.le_of_ble_eq_true rfl)
  have hx := C0.1
  have hb := C0.2.1
  have hl : lv_has ls 6 [(0, .ref (h.2.2 0 0)), (1, .int a1), (2, .int a2), (3, .int a3)] := hl
  unfold FX4_tune at hF
  refine lv_aload_n hx hb dX4_tune_0 rfl (lv_at hl 0 rfl) ?_
  refine lv_iload_n hx hb dX4_tune_1 rfl (lv_at hl 1 rfl) ?_
  obtain ⟨z1, hz1, hF⟩ := bnd hF
  refine inR (runV C0 hlo hK hZ hW hS (kX4_birdAt l lo g h _ a1  _ _ hz1) wCO_X4_birdAt wML_X4_122 wIM_X4_birdAt wSE_X4_X4_birdAt wIN_X4 hdX4_birdAt ⟨Nat.le_of_ble_eq_true rfl, Nat.le_of_ble_eq_true rfl⟩ (recvK hK hW (al0 h 0 (by decide)) (ct0 0) rfl) rfl hl.1 rfl (Nat.le_of_ble_eq_true rfl) dX4_tune_2 ⟨Nat.le_of_ble_eq_true rfl, Nat.le_of_ble_eq_true rfl⟩) hS (fun H locs hW hS => ?_)
  refine nspl (fun nz1 => ?_) (fun iz1 nz1 => ?_)
  · rw [nz1, oc_n] at hF
    refine lv_astoreN (lv' := [(4, .null), (0, .ref (h.2.2 0 0)), (1, .int a1), (2, .int a2), (3, .int a3)]) hx hb dX4_tune_5 hl (by decide) rfl (fun ls hl => ?_)
    refine lv_aloadN hx hb dX4_tune_7 (lv_at hl 0 rfl) ?_
    refine lv_ifnonnullN hx hb dX4_tune_9 ?_
    cases hF
  · rw [nz1, oc_s] at hF
    obtain ⟨hiz1, hF⟩ := grp hF
    refine lv_astore (lv' := [(4, .ref (h.2.2 6 iz1)), (0, .ref (h.2.2 0 0)), (1, .int a1), (2, .int a2), (3, .int a3)]) hx hb dX4_tune_5 hl (by decide) rfl (fun ls hl => ?_)
    refine lv_aload hx hb dX4_tune_7 (lv_at hl 0 rfl) ?_
    refine lv_ifnonnull (tgt := 22) hx hb dX4_tune_9 (by decide) ?_
    refine lv_iload_n hx hb dX4_tune_22 rfl (lv_at hl 3 rfl) ?_
    refine lv_iconst (v := 0) hx hb dX4_tune_23 (by decide) ?_
    refine lv_iconst (v := 5) hx hb dX4_tune_24 (by decide) ?_
    obtain ⟨z2, hz2, hF⟩ := bnd hF
    refine inI (runS C0 hlo hK hZ hW hS (kX4_isIn l lo g h _ a2 0 5  _ _ hz2) wCO_X4_isIn wML_X4_28 wST_X4_isIn wIN_X4 hdsX4_isIn ⟨Nat.le_of_ble_eq_true rfl, Nat.le_of_ble_eq_true rfl⟩ rfl hl.1 rfl (Nat.le_of_ble_eq_true rfl) dX4_tune_25 ⟨Nat.le_of_ble_eq_true rfl, Nat.le_of_ble_eq_true rfl⟩) hS (fun H locs hW hS => ?_)
    refine lv_if_ne (tgt := 41) hx hb dX4_tune_28 (by decide) (fun c3 => ?_) (fun c3 => ?_)
    · rw [if_neg c3] at hF
      refine lv_iload_n hx hb dX4_tune_41 rfl (lv_at hl 4 rfl) ?_
      refine lv_iconst (v := 0) hx hb dX4_tune_42 (by decide) ?_
      refine lv_bipush (v := 87) hx hb dX4_tune_43 (by decide) ?_
      obtain ⟨z4, hz4, hF⟩ := bnd hF
      refine inI (runS C0 hlo hK hZ hW hS (kX4_isIn l lo g h _ a3 0 87  _ _ hz4) wCO_X4_isIn wML_X4_28 wST_X4_isIn wIN_X4 hdsX4_isIn ⟨Nat.le_of_ble_eq_true rfl, Nat.le_of_ble_eq_true rfl⟩ rfl hl.1 rfl (Nat.le_of_ble_eq_true rfl) dX4_tune_45 ⟨Nat.le_of_ble_eq_true rfl, Nat.le_of_ble_eq_true rfl⟩) hS (fun H locs hW hS => ?_)
      refine lv_if_ne (tgt := 61) hx hb dX4_tune_48 (by decide) (fun c5 => ?_) (fun c5 => ?_)
      · rw [if_neg c5] at hF
        refine lv_aload hx hb dX4_tune_61 (lv_at hl 0 rfl) ?_
        refine get6 C0 hK hW iz1 (al6 6 hiz1 (by decide)) 6 (by decide) wFL_X4_161 rfl rfl dX4_tune_63 ?_
        refine lv_iload_n hx hb dX4_tune_66 rfl (lv_at hl 3 rfl) ?_
        obtain ⟨z6, hz6, hF⟩ := bnd hF
        refine inI (runS C0 hlo hK hZ hW hS (kX4_at l lo g h _ 8 iz1 a2 (al6 8 hiz1 (by decide)) (by decide) _ _ hz6) wCO_X4_at wML_X4_165 wST_X4_at wIN_X4 hdsX4_at ⟨Nat.le_of_ble_eq_true rfl, Nat.le_of_ble_eq_true rfl⟩ rfl hl.1 rfl (Nat.le_of_ble_eq_true rfl) dX4_tune_67 ⟨Nat.le_of_ble_eq_true rfl, Nat.le_of_ble_eq_true rfl⟩) hS (fun H locs hW hS => ?_)
        refine lv_istore (lv' := [(5, .int z6.1), (4, .ref (h.2.2 6 iz1)), (0, .ref (h.2.2 0 0)), (1, .int a1), (2, .int a2), (3, .int a3)]) hx hb dX4_tune_70 hl (by decide) rfl (fun ls hl => ?_)
        refine lv_aload hx hb dX4_tune_72 (lv_at hl 1 rfl) ?_
        refine get6 C0 hK hW iz1 (al6 6 hiz1 (by decide)) 6 (by decide) wFL_X4_161 rfl rfl dX4_tune_74 ?_
        refine lv_iload_n hx hb dX4_tune_77 rfl (lv_at hl 4 rfl) ?_
        refine lv_iload_n hx hb dX4_tune_78 rfl (lv_at hl 5 rfl) ?_
        obtain ⟨z7, hz7, hF⟩ := bnd hF
        refine inV (runS C0 hlo hK hZ hW hS (kX4_put l lo g h _ 8 iz1 a2 a3 (al6 8 hiz1 (by decide)) (by decide) _ hz7) wCO_X4_put wML_X4_169 wST_X4_put wIN_X4 hdsX4_put ⟨Nat.le_of_ble_eq_true rfl, Nat.le_of_ble_eq_true rfl⟩ rfl hl.1 rfl (Nat.le_of_ble_eq_true rfl) dX4_tune_79 ⟨Nat.le_of_ble_eq_true rfl, Nat.le_of_ble_eq_true rfl⟩) hS (fun H locs hW hS => ?_)
        refine lv_iload hx hb dX4_tune_82 (lv_at hl 0 rfl) ?_
        cases hF
        exact retI C0 hr hlk hW hS dX4_tune_84
      · rw [if_pos c5] at hF
        cases hF
    · rw [if_pos c3] at hF
      cases hF
theorem hdX4_point : yX4_point.cls = RX4 ∧ yX4_point.cls ≠ "java/lang/invoke/MethodHandle" ∧ yX4_point.cls ≠ "java/lang/invoke/VarHandle" ∧ (parseMethodDescriptor yX4_point.desc).map (fun d => d.parameters.length) = some 4 := by decide +kernel
def FX4_point (ns nb : Nat) (σ : Sg) (a1 : Int32) (a2 : Int32) (a3 : Int32) (a4 : Int32) : Option ((Nat ⊕ Int32) × Sg) :=
  (FX4_birdAt ns nb σ a1).bind fun z1 => oc z1.1 (some (.inl 1, z1.2)) (fun iz1 => if iz1 < nb then ((FX0_camAt ns nb z1.2 iz1 a2).bind fun z2 => oc z2.1 (some (.inl 1, z2.2)) (fun iz2 => if iz2 < 3 * nb then ((FX0_hasPlace ns nb z2.2 iz1 a3).bind fun z3 => if z3.1 = 0 then (some (.inl 2, z3.2)) else ((FX4_isIn ns nb z3.2 a4 (-1) 100).bind fun z5 => if z5.1 = 0 then (some (.inl 2, z5.2)) else ((FX1_hasPoint ns nb z5.2 iz2 a3).bind fun z7 => if a4 = (-1) then (if z7.1 = 0 then (some (.inl 3, z7.2)) else (if z7.1 = 0 then (if (z7.2.1 10 iz2 2) < 8 then (if a4 = (-1) then ((FX1_takePoint ns nb z7.2 iz2 a3 (z7.2.1 6 iz1 2)).bind fun z25 => some (.inr (z25.1 10 iz2 2), z25)) else ((FX1_layPoint ns nb z7.2 iz2 a3 a4 (z7.2.1 6 iz1 2)).bind fun z24 => some (.inr (z24.1 10 iz2 2), z24))) else (some (.inl 3, z7.2))) else (if a4 = (-1) then ((FX1_takePoint ns nb z7.2 iz2 a3 (z7.2.1 6 iz1 2)).bind fun z21 => some (.inr (z21.1 10 iz2 2), z21)) else ((FX1_layPoint ns nb z7.2 iz2 a3 a4 (z7.2.1 6 iz1 2)).bind fun z20 => some (.inr (z20.1 10 iz2 2), z20))))) else (if z7.1 = 0 then (if (z7.2.1 10 iz2 2) < 8 then (if a4 = (-1) then ((FX1_takePoint ns nb z7.2 iz2 a3 (z7.2.1 6 iz1 2)).bind fun z16 => some (.inr (z16.1 10 iz2 2), z16)) else ((FX1_layPoint ns nb z7.2 iz2 a3 a4 (z7.2.1 6 iz1 2)).bind fun z15 => some (.inr (z15.1 10 iz2 2), z15))) else (some (.inl 3, z7.2))) else (if a4 = (-1) then ((FX1_takePoint ns nb z7.2 iz2 a3 (z7.2.1 6 iz1 2)).bind fun z12 => some (.inr (z12.1 10 iz2 2), z12)) else ((FX1_layPoint ns nb z7.2 iz2 a3 a4 (z7.2.1 6 iz1 2)).bind fun z11 => some (.inr (z11.1 10 iz2 2), z11))))))) else none)) else none)
set_option maxHeartbeats 4000000 in
set_option maxRecDepth 100000 in
theorem nX4_point (l : Launch) (lo : Nat) (g : Gx) (h : Sh) (σ : Sg) (a1 : Int32) (a2 : Int32) (a3 : Int32) (a4 : Int32)  (r : Int32) (σ1 : Sg) (hF : FX4_point h.1 h.2.1 σ a1 a2 a3 a4 = some (.inr r, σ1)) : MI l yX4_point (ws_ yX4_point cX4_point 8 (some .int)) 5 113 0 0 lo g h [.ref (h.2.2 0 0), .int a1, .int a2, .int a3, .int a4] σ r σ1 := by
  refine ofB (own := RX4) (by decide +kernel) rfl (fun p e s m below meth c C0 hr hlk hlo hK hZ hW hS ls hl => ?_) (Nat.le_of_ble_eq_true rfl)
  have hx := C0.1
  have hb := C0.2.1
  have hl : lv_has ls 8 [(0, .ref (h.2.2 0 0)), (1, .int a1), (2, .int a2), (3, .int a3), (4, .int a4)] := hl
  unfold FX4_point at hF
  refine lv_aload_n hx hb dX4_point_0 rfl (lv_at hl 0 rfl) ?_
  refine lv_iload_n hx hb dX4_point_1 rfl (lv_at hl 1 rfl) ?_
  obtain ⟨z1, hz1, hF⟩ := bnd hF
  refine inR (runV C0 hlo hK hZ hW hS (kX4_birdAt l lo g h _ a1  _ _ hz1) wCO_X4_birdAt wML_X4_122 wIM_X4_birdAt wSE_X4_X4_birdAt wIN_X4 hdX4_birdAt ⟨Nat.le_of_ble_eq_true rfl, Nat.le_of_ble_eq_true rfl⟩ (recvK hK hW (al0 h 0 (by decide)) (ct0 0) rfl) rfl hl.1 rfl (Nat.le_of_ble_eq_true rfl) dX4_point_2 ⟨Nat.le_of_ble_eq_true rfl, Nat.le_of_ble_eq_true rfl⟩) hS (fun H locs hW hS => ?_)
  refine nspl (fun nz1 => ?_) (fun iz1 nz1 => ?_)
  · rw [nz1, oc_n] at hF
    refine lv_astoreN (lv' := [(5, .null), (0, .ref (h.2.2 0 0)), (1, .int a1), (2, .int a2), (3, .int a3), (4, .int a4)]) hx hb dX4_point_5 hl (by decide) rfl (fun ls hl => ?_)
    refine lv_aloadN hx hb dX4_point_7 (lv_at hl 0 rfl) ?_
    refine lv_ifnonnullN hx hb dX4_point_9 ?_
    refine lv_null hx hb dX4_point_12 ?_
    refine lv_goto (tgt := 22) hx hb dX4_point_13 (by decide) ?_
    refine lv_astoreN (lv' := [(6, .null), (5, .null), (0, .ref (h.2.2 0 0)), (1, .int a1), (2, .int a2), (3, .int a3), (4, .int a4)]) hx hb dX4_point_22 hl (by decide) rfl (fun ls hl => ?_)
    refine lv_aloadN hx hb dX4_point_24 (lv_at hl 1 rfl) ?_
    refine lv_ifnullN (tgt := 34) hx hb dX4_point_26 (by decide) ?_
    cases hF
  · rw [nz1, oc_s] at hF
    obtain ⟨hiz1, hF⟩ := grp hF
    refine lv_astore (lv' := [(5, .ref (h.2.2 6 iz1)), (0, .ref (h.2.2 0 0)), (1, .int a1), (2, .int a2), (3, .int a3), (4, .int a4)]) hx hb dX4_point_5 hl (by decide) rfl (fun ls hl => ?_)
    refine lv_aload hx hb dX4_point_7 (lv_at hl 0 rfl) ?_
    refine lv_ifnonnull (tgt := 16) hx hb dX4_point_9 (by decide) ?_
    refine lv_aload hx hb dX4_point_16 (lv_at hl 0 rfl) ?_
    refine lv_iload_n hx hb dX4_point_18 rfl (lv_at hl 3 rfl) ?_
    obtain ⟨z2, hz2, hF⟩ := bnd hF
    refine inR (runV C0 hlo hK hZ hW hS (kX0_camAt l lo g h _ iz1 a2 hiz1 _ _ hz2) wCO_X0_camAt wML_X4_173 wIM_X0_camAt wSE_X0_X0_camAt wIN_X0 hdX0_camAt ⟨Nat.le_of_ble_eq_true rfl, Nat.le_of_ble_eq_true rfl⟩ (recvK hK hW (al6 6 hiz1 (by decide)) (ct6 iz1) rfl) rfl hl.1 rfl (Nat.le_of_ble_eq_true rfl) dX4_point_19 ⟨Nat.le_of_ble_eq_true rfl, Nat.le_of_ble_eq_true rfl⟩) hS (fun H locs hW hS => ?_)
    refine nspl (fun nz2 => ?_) (fun iz2 nz2 => ?_)
    · rw [nz2, oc_n] at hF
      refine lv_astoreN (lv' := [(6, .null), (5, .ref (h.2.2 6 iz1)), (0, .ref (h.2.2 0 0)), (1, .int a1), (2, .int a2), (3, .int a3), (4, .int a4)]) hx hb dX4_point_22 hl (by decide) rfl (fun ls hl => ?_)
      refine lv_aload hx hb dX4_point_24 (lv_at hl 1 rfl) ?_
      refine lv_ifnull hx hb dX4_point_26 ?_
      refine lv_aloadN hx hb dX4_point_29 (lv_at hl 0 rfl) ?_
      refine lv_ifnonnullN hx hb dX4_point_31 ?_
      cases hF
    · rw [nz2, oc_s] at hF
      obtain ⟨hiz2, hF⟩ := grp hF
      refine lv_astore (lv' := [(6, .ref (h.2.2 10 iz2)), (5, .ref (h.2.2 6 iz1)), (0, .ref (h.2.2 0 0)), (1, .int a1), (2, .int a2), (3, .int a3), (4, .int a4)]) hx hb dX4_point_22 hl (by decide) rfl (fun ls hl => ?_)
      refine lv_aload hx hb dX4_point_24 (lv_at hl 1 rfl) ?_
      refine lv_ifnull hx hb dX4_point_26 ?_
      refine lv_aload hx hb dX4_point_29 (lv_at hl 0 rfl) ?_
      refine lv_ifnonnull (tgt := 44) hx hb dX4_point_31 (by decide) ?_
      refine lv_aload hx hb dX4_point_44 (lv_at hl 1 rfl) ?_
      refine lv_iload_n hx hb dX4_point_46 rfl (lv_at hl 5 rfl) ?_
      obtain ⟨z3, hz3, hF⟩ := bnd hF
      refine inI (runV C0 hlo hK hZ hW hS (kX0_hasPlace l lo g h _ iz1 a3 hiz1 _ _ hz3) wCO_X0_hasPlace wML_X4_138 wIM_X0_hasPlace wSE_X0_X0_hasPlace wIN_X0 hdX0_hasPlace ⟨Nat.le_of_ble_eq_true rfl, Nat.le_of_ble_eq_true rfl⟩ (recvK hK hW (al6 6 hiz1 (by decide)) (ct6 iz1) rfl) rfl hl.1 rfl (Nat.le_of_ble_eq_true rfl) dX4_point_47 ⟨Nat.le_of_ble_eq_true rfl, Nat.le_of_ble_eq_true rfl⟩) hS (fun H locs hW hS => ?_)
      refine lv_if_ne (tgt := 63) hx hb dX4_point_50 (by decide) (fun c4 => ?_) (fun c4 => ?_)
      · rw [if_neg c4] at hF
        refine lv_iload hx hb dX4_point_63 (lv_at hl 6 rfl) ?_
        refine lv_iconst (v := (-1)) hx hb dX4_point_65 (by decide) ?_
        refine lv_bipush (v := 100) hx hb dX4_point_66 (by decide) ?_
        obtain ⟨z5, hz5, hF⟩ := bnd hF
        refine inI (runS C0 hlo hK hZ hW hS (kX4_isIn l lo g h _ a4 (-1) 100  _ _ hz5) wCO_X4_isIn wML_X4_28 wST_X4_isIn wIN_X4 hdsX4_isIn ⟨Nat.le_of_ble_eq_true rfl, Nat.le_of_ble_eq_true rfl⟩ rfl hl.1 rfl (Nat.le_of_ble_eq_true rfl) dX4_point_68 ⟨Nat.le_of_ble_eq_true rfl, Nat.le_of_ble_eq_true rfl⟩) hS (fun H locs hW hS => ?_)
        refine lv_if_ne (tgt := 84) hx hb dX4_point_71 (by decide) (fun c6 => ?_) (fun c6 => ?_)
        · rw [if_neg c6] at hF
          refine lv_aload hx hb dX4_point_84 (lv_at hl 0 rfl) ?_
          refine lv_iload_n hx hb dX4_point_86 rfl (lv_at hl 5 rfl) ?_
          obtain ⟨z7, hz7, hF⟩ := bnd hF
          refine inI (runV C0 hlo hK hZ hW hS (kX1_hasPoint l lo g h _ iz2 a3 hiz2 _ _ hz7) wCO_X1_hasPoint wML_X4_181 wIM_X1_hasPoint wSE_X1_X1_hasPoint wIN_X1 hdX1_hasPoint ⟨Nat.le_of_ble_eq_true rfl, Nat.le_of_ble_eq_true rfl⟩ (recvK hK hW (al10 10 hiz2 (by decide)) (ct10 iz2) rfl) rfl hl.1 rfl (Nat.le_of_ble_eq_true rfl) dX4_point_87 ⟨Nat.le_of_ble_eq_true rfl, Nat.le_of_ble_eq_true rfl⟩) hS (fun H locs hW hS => ?_)
          refine lv_istore (lv' := [(7, .int z7.1), (6, .ref (h.2.2 10 iz2)), (5, .ref (h.2.2 6 iz1)), (0, .ref (h.2.2 0 0)), (1, .int a1), (2, .int a2), (3, .int a3), (4, .int a4)]) hx hb dX4_point_90 hl (by decide) rfl (fun ls hl => ?_)
          refine lv_iload hx hb dX4_point_92 (lv_at hl 7 rfl) ?_
          refine lv_iconst (v := (-1)) hx hb dX4_point_94 (by decide) ?_
          refine lv_icmp_ne (tgt := 113) hx hb dX4_point_95 (by decide) (fun c8 => ?_) (fun c8 => ?_)
          · rw [if_neg c8] at hF
            refine lv_iload hx hb dX4_point_113 (lv_at hl 0 rfl) ?_
            refine lv_if_ne (tgt := 138) hx hb dX4_point_115 (by decide) (fun c9 => ?_) (fun c9 => ?_)
            · rw [if_neg c9] at hF
              refine lv_iload hx hb dX4_point_138 (lv_at hl 7 rfl) ?_
              refine lv_iconst (v := (-1)) hx hb dX4_point_140 (by decide) ?_
              refine lv_icmp_ne (tgt := 158) hx hb dX4_point_141 (by decide) (fun c10 => ?_) (fun c10 => ?_)
              · rw [if_neg c10] at hF
                refine lv_aload hx hb dX4_point_158 (lv_at hl 1 rfl) ?_
                refine lv_iload_n hx hb dX4_point_160 rfl (lv_at hl 6 rfl) ?_
                refine lv_iload hx hb dX4_point_161 (lv_at hl 7 rfl) ?_
                refine lv_aload hx hb dX4_point_163 (lv_at hl 2 rfl) ?_
                refine get6 C0 hK hW iz1 (al6 6 hiz1 (by decide)) 2 (by decide) wFL_X4_193 rfl rfl dX4_point_165 ?_
                obtain ⟨z11, hz11, hF⟩ := bnd hF
                refine inV (runV C0 hlo hK hZ hW hS (kX1_layPoint l lo g h _ iz2 a3 a4 (z7.2.1 6 iz1 2) hiz2 _ hz11) wCO_X1_layPoint wML_X4_199 wIM_X1_layPoint wSE_X1_X1_layPoint wIN_X1 hdX1_layPoint ⟨Nat.le_of_ble_eq_true rfl, Nat.le_of_ble_eq_true rfl⟩ (recvK hK hW (al10 10 hiz2 (by decide)) (ct10 iz2) rfl) rfl hl.1 rfl (Nat.le_of_ble_eq_true rfl) dX4_point_168 ⟨Nat.le_of_ble_eq_true rfl, Nat.le_of_ble_eq_true rfl⟩) hS (fun H locs hW hS => ?_)
                refine lv_aload hx hb dX4_point_171 (lv_at hl 1 rfl) ?_
                refine get10 C0 hK hW iz2 (al10 10 hiz2 (by decide)) 2 (by decide) wFL_X4_188 rfl rfl dX4_point_173 ?_
                cases hF
                exact retI C0 hr hlk hW hS dX4_point_176
              · rw [if_pos c10] at hF
                refine lv_aload hx hb dX4_point_144 (lv_at hl 1 rfl) ?_
                refine lv_iload_n hx hb dX4_point_146 rfl (lv_at hl 6 rfl) ?_
                refine lv_aload hx hb dX4_point_147 (lv_at hl 2 rfl) ?_
                refine get6 C0 hK hW iz1 (al6 6 hiz1 (by decide)) 2 (by decide) wFL_X4_193 rfl rfl dX4_point_149 ?_
                obtain ⟨z12, hz12, hF⟩ := bnd hF
                refine inV (runV C0 hlo hK hZ hW hS (kX1_takePoint l lo g h _ iz2 a3 (z7.2.1 6 iz1 2) hiz2 _ hz12) wCO_X1_takePoint wML_X4_196 wIM_X1_takePoint wSE_X1_X1_takePoint wIN_X1 hdX1_takePoint ⟨Nat.le_of_ble_eq_true rfl, Nat.le_of_ble_eq_true rfl⟩ (recvK hK hW (al10 10 hiz2 (by decide)) (ct10 iz2) rfl) rfl hl.1 rfl (Nat.le_of_ble_eq_true rfl) dX4_point_152 ⟨Nat.le_of_ble_eq_true rfl, Nat.le_of_ble_eq_true rfl⟩) hS (fun H locs hW hS => ?_)
                refine lv_goto (tgt := 171) hx hb dX4_point_155 (by decide) ?_
                refine lv_aload hx hb dX4_point_171 (lv_at hl 1 rfl) ?_
                refine get10 C0 hK hW iz2 (al10 10 hiz2 (by decide)) 2 (by decide) wFL_X4_188 rfl rfl dX4_point_173 ?_
                cases hF
                exact retI C0 hr hlk hW hS dX4_point_176
            · rw [if_pos c9] at hF
              refine lv_aload hx hb dX4_point_118 (lv_at hl 1 rfl) ?_
              refine get10 C0 hK hW iz2 (al10 10 hiz2 (by decide)) 2 (by decide) wFL_X4_188 rfl rfl dX4_point_120 ?_
              refine lv_bipush (v := 8) hx hb dX4_point_123 (by decide) ?_
              refine lv_icmp_lt (tgt := 138) hx hb dX4_point_125 (by decide) (fun c13 => ?_) (fun c13 => ?_)
              · rw [if_pos c13] at hF
                refine lv_iload hx hb dX4_point_138 (lv_at hl 7 rfl) ?_
                refine lv_iconst (v := (-1)) hx hb dX4_point_140 (by decide) ?_
                refine lv_icmp_ne (tgt := 158) hx hb dX4_point_141 (by decide) (fun c14 => ?_) (fun c14 => ?_)
                · rw [if_neg c14] at hF
                  refine lv_aload hx hb dX4_point_158 (lv_at hl 1 rfl) ?_
                  refine lv_iload_n hx hb dX4_point_160 rfl (lv_at hl 6 rfl) ?_
                  refine lv_iload hx hb dX4_point_161 (lv_at hl 7 rfl) ?_
                  refine lv_aload hx hb dX4_point_163 (lv_at hl 2 rfl) ?_
                  refine get6 C0 hK hW iz1 (al6 6 hiz1 (by decide)) 2 (by decide) wFL_X4_193 rfl rfl dX4_point_165 ?_
                  obtain ⟨z15, hz15, hF⟩ := bnd hF
                  refine inV (runV C0 hlo hK hZ hW hS (kX1_layPoint l lo g h _ iz2 a3 a4 (z7.2.1 6 iz1 2) hiz2 _ hz15) wCO_X1_layPoint wML_X4_199 wIM_X1_layPoint wSE_X1_X1_layPoint wIN_X1 hdX1_layPoint ⟨Nat.le_of_ble_eq_true rfl, Nat.le_of_ble_eq_true rfl⟩ (recvK hK hW (al10 10 hiz2 (by decide)) (ct10 iz2) rfl) rfl hl.1 rfl (Nat.le_of_ble_eq_true rfl) dX4_point_168 ⟨Nat.le_of_ble_eq_true rfl, Nat.le_of_ble_eq_true rfl⟩) hS (fun H locs hW hS => ?_)
                  refine lv_aload hx hb dX4_point_171 (lv_at hl 1 rfl) ?_
                  refine get10 C0 hK hW iz2 (al10 10 hiz2 (by decide)) 2 (by decide) wFL_X4_188 rfl rfl dX4_point_173 ?_
                  cases hF
                  exact retI C0 hr hlk hW hS dX4_point_176
                · rw [if_pos c14] at hF
                  refine lv_aload hx hb dX4_point_144 (lv_at hl 1 rfl) ?_
                  refine lv_iload_n hx hb dX4_point_146 rfl (lv_at hl 6 rfl) ?_
                  refine lv_aload hx hb dX4_point_147 (lv_at hl 2 rfl) ?_
                  refine get6 C0 hK hW iz1 (al6 6 hiz1 (by decide)) 2 (by decide) wFL_X4_193 rfl rfl dX4_point_149 ?_
                  obtain ⟨z16, hz16, hF⟩ := bnd hF
                  refine inV (runV C0 hlo hK hZ hW hS (kX1_takePoint l lo g h _ iz2 a3 (z7.2.1 6 iz1 2) hiz2 _ hz16) wCO_X1_takePoint wML_X4_196 wIM_X1_takePoint wSE_X1_X1_takePoint wIN_X1 hdX1_takePoint ⟨Nat.le_of_ble_eq_true rfl, Nat.le_of_ble_eq_true rfl⟩ (recvK hK hW (al10 10 hiz2 (by decide)) (ct10 iz2) rfl) rfl hl.1 rfl (Nat.le_of_ble_eq_true rfl) dX4_point_152 ⟨Nat.le_of_ble_eq_true rfl, Nat.le_of_ble_eq_true rfl⟩) hS (fun H locs hW hS => ?_)
                  refine lv_goto (tgt := 171) hx hb dX4_point_155 (by decide) ?_
                  refine lv_aload hx hb dX4_point_171 (lv_at hl 1 rfl) ?_
                  refine get10 C0 hK hW iz2 (al10 10 hiz2 (by decide)) 2 (by decide) wFL_X4_188 rfl rfl dX4_point_173 ?_
                  cases hF
                  exact retI C0 hr hlk hW hS dX4_point_176
              · rw [if_neg c13] at hF
                cases hF
          · rw [if_pos c8] at hF
            refine lv_iload hx hb dX4_point_98 (lv_at hl 0 rfl) ?_
            refine lv_if_ne (tgt := 113) hx hb dX4_point_100 (by decide) (fun c17 => ?_) (fun c17 => ?_)
            · rw [if_neg c17] at hF
              refine lv_iload hx hb dX4_point_113 (lv_at hl 0 rfl) ?_
              refine lv_if_ne (tgt := 138) hx hb dX4_point_115 (by decide) (fun c18 => ?_) (fun c18 => ?_)
              · rw [if_neg c18] at hF
                refine lv_iload hx hb dX4_point_138 (lv_at hl 7 rfl) ?_
                refine lv_iconst (v := (-1)) hx hb dX4_point_140 (by decide) ?_
                refine lv_icmp_ne (tgt := 158) hx hb dX4_point_141 (by decide) (fun c19 => ?_) (fun c19 => ?_)
                · rw [if_neg c19] at hF
                  refine lv_aload hx hb dX4_point_158 (lv_at hl 1 rfl) ?_
                  refine lv_iload_n hx hb dX4_point_160 rfl (lv_at hl 6 rfl) ?_
                  refine lv_iload hx hb dX4_point_161 (lv_at hl 7 rfl) ?_
                  refine lv_aload hx hb dX4_point_163 (lv_at hl 2 rfl) ?_
                  refine get6 C0 hK hW iz1 (al6 6 hiz1 (by decide)) 2 (by decide) wFL_X4_193 rfl rfl dX4_point_165 ?_
                  obtain ⟨z20, hz20, hF⟩ := bnd hF
                  refine inV (runV C0 hlo hK hZ hW hS (kX1_layPoint l lo g h _ iz2 a3 a4 (z7.2.1 6 iz1 2) hiz2 _ hz20) wCO_X1_layPoint wML_X4_199 wIM_X1_layPoint wSE_X1_X1_layPoint wIN_X1 hdX1_layPoint ⟨Nat.le_of_ble_eq_true rfl, Nat.le_of_ble_eq_true rfl⟩ (recvK hK hW (al10 10 hiz2 (by decide)) (ct10 iz2) rfl) rfl hl.1 rfl (Nat.le_of_ble_eq_true rfl) dX4_point_168 ⟨Nat.le_of_ble_eq_true rfl, Nat.le_of_ble_eq_true rfl⟩) hS (fun H locs hW hS => ?_)
                  refine lv_aload hx hb dX4_point_171 (lv_at hl 1 rfl) ?_
                  refine get10 C0 hK hW iz2 (al10 10 hiz2 (by decide)) 2 (by decide) wFL_X4_188 rfl rfl dX4_point_173 ?_
                  cases hF
                  exact retI C0 hr hlk hW hS dX4_point_176
                · rw [if_pos c19] at hF
                  refine lv_aload hx hb dX4_point_144 (lv_at hl 1 rfl) ?_
                  refine lv_iload_n hx hb dX4_point_146 rfl (lv_at hl 6 rfl) ?_
                  refine lv_aload hx hb dX4_point_147 (lv_at hl 2 rfl) ?_
                  refine get6 C0 hK hW iz1 (al6 6 hiz1 (by decide)) 2 (by decide) wFL_X4_193 rfl rfl dX4_point_149 ?_
                  obtain ⟨z21, hz21, hF⟩ := bnd hF
                  refine inV (runV C0 hlo hK hZ hW hS (kX1_takePoint l lo g h _ iz2 a3 (z7.2.1 6 iz1 2) hiz2 _ hz21) wCO_X1_takePoint wML_X4_196 wIM_X1_takePoint wSE_X1_X1_takePoint wIN_X1 hdX1_takePoint ⟨Nat.le_of_ble_eq_true rfl, Nat.le_of_ble_eq_true rfl⟩ (recvK hK hW (al10 10 hiz2 (by decide)) (ct10 iz2) rfl) rfl hl.1 rfl (Nat.le_of_ble_eq_true rfl) dX4_point_152 ⟨Nat.le_of_ble_eq_true rfl, Nat.le_of_ble_eq_true rfl⟩) hS (fun H locs hW hS => ?_)
                  refine lv_goto (tgt := 171) hx hb dX4_point_155 (by decide) ?_
                  refine lv_aload hx hb dX4_point_171 (lv_at hl 1 rfl) ?_
                  refine get10 C0 hK hW iz2 (al10 10 hiz2 (by decide)) 2 (by decide) wFL_X4_188 rfl rfl dX4_point_173 ?_
                  cases hF
                  exact retI C0 hr hlk hW hS dX4_point_176
              · rw [if_pos c18] at hF
                refine lv_aload hx hb dX4_point_118 (lv_at hl 1 rfl) ?_
                refine get10 C0 hK hW iz2 (al10 10 hiz2 (by decide)) 2 (by decide) wFL_X4_188 rfl rfl dX4_point_120 ?_
                refine lv_bipush (v := 8) hx hb dX4_point_123 (by decide) ?_
                refine lv_icmp_lt (tgt := 138) hx hb dX4_point_125 (by decide) (fun c22 => ?_) (fun c22 => ?_)
                · rw [if_pos c22] at hF
                  refine lv_iload hx hb dX4_point_138 (lv_at hl 7 rfl) ?_
                  refine lv_iconst (v := (-1)) hx hb dX4_point_140 (by decide) ?_
                  refine lv_icmp_ne (tgt := 158) hx hb dX4_point_141 (by decide) (fun c23 => ?_) (fun c23 => ?_)
                  · rw [if_neg c23] at hF
                    refine lv_aload hx hb dX4_point_158 (lv_at hl 1 rfl) ?_
                    refine lv_iload_n hx hb dX4_point_160 rfl (lv_at hl 6 rfl) ?_
                    refine lv_iload hx hb dX4_point_161 (lv_at hl 7 rfl) ?_
                    refine lv_aload hx hb dX4_point_163 (lv_at hl 2 rfl) ?_
                    refine get6 C0 hK hW iz1 (al6 6 hiz1 (by decide)) 2 (by decide) wFL_X4_193 rfl rfl dX4_point_165 ?_
                    obtain ⟨z24, hz24, hF⟩ := bnd hF
                    refine inV (runV C0 hlo hK hZ hW hS (kX1_layPoint l lo g h _ iz2 a3 a4 (z7.2.1 6 iz1 2) hiz2 _ hz24) wCO_X1_layPoint wML_X4_199 wIM_X1_layPoint wSE_X1_X1_layPoint wIN_X1 hdX1_layPoint ⟨Nat.le_of_ble_eq_true rfl, Nat.le_of_ble_eq_true rfl⟩ (recvK hK hW (al10 10 hiz2 (by decide)) (ct10 iz2) rfl) rfl hl.1 rfl (Nat.le_of_ble_eq_true rfl) dX4_point_168 ⟨Nat.le_of_ble_eq_true rfl, Nat.le_of_ble_eq_true rfl⟩) hS (fun H locs hW hS => ?_)
                    refine lv_aload hx hb dX4_point_171 (lv_at hl 1 rfl) ?_
                    refine get10 C0 hK hW iz2 (al10 10 hiz2 (by decide)) 2 (by decide) wFL_X4_188 rfl rfl dX4_point_173 ?_
                    cases hF
                    exact retI C0 hr hlk hW hS dX4_point_176
                  · rw [if_pos c23] at hF
                    refine lv_aload hx hb dX4_point_144 (lv_at hl 1 rfl) ?_
                    refine lv_iload_n hx hb dX4_point_146 rfl (lv_at hl 6 rfl) ?_
                    refine lv_aload hx hb dX4_point_147 (lv_at hl 2 rfl) ?_
                    refine get6 C0 hK hW iz1 (al6 6 hiz1 (by decide)) 2 (by decide) wFL_X4_193 rfl rfl dX4_point_149 ?_
                    obtain ⟨z25, hz25, hF⟩ := bnd hF
                    refine inV (runV C0 hlo hK hZ hW hS (kX1_takePoint l lo g h _ iz2 a3 (z7.2.1 6 iz1 2) hiz2 _ hz25) wCO_X1_takePoint wML_X4_196 wIM_X1_takePoint wSE_X1_X1_takePoint wIN_X1 hdX1_takePoint ⟨Nat.le_of_ble_eq_true rfl, Nat.le_of_ble_eq_true rfl⟩ (recvK hK hW (al10 10 hiz2 (by decide)) (ct10 iz2) rfl) rfl hl.1 rfl (Nat.le_of_ble_eq_true rfl) dX4_point_152 ⟨Nat.le_of_ble_eq_true rfl, Nat.le_of_ble_eq_true rfl⟩) hS (fun H locs hW hS => ?_)
                    refine lv_goto (tgt := 171) hx hb dX4_point_155 (by decide) ?_
                    refine lv_aload hx hb dX4_point_171 (lv_at hl 1 rfl) ?_
                    refine get10 C0 hK hW iz2 (al10 10 hiz2 (by decide)) 2 (by decide) wFL_X4_188 rfl rfl dX4_point_173 ?_
                    cases hF
                    exact retI C0 hr hlk hW hS dX4_point_176
                · rw [if_neg c22] at hF
                  cases hF
            · rw [if_pos c17] at hF
              cases hF
        · rw [if_pos c6] at hF
          cases hF
      · rw [if_pos c4] at hF
        cases hF
theorem hdX4_bird : yX4_bird.cls = RX4 ∧ yX4_bird.cls ≠ "java/lang/invoke/MethodHandle" ∧ yX4_bird.cls ≠ "java/lang/invoke/VarHandle" ∧ (parseMethodDescriptor yX4_bird.desc).map (fun d => d.parameters.length) = some 2 := by decide +kernel
def FX4_bird (ns nb : Nat) (σ : Sg) (a1 : Int32) (a2 : Int32) : Option ((Nat ⊕ Int32) × Sg) :=
  (FX4_birdAt ns nb σ a1).bind fun z1 => oc z1.1 (some (.inl 1, z1.2)) (fun iz1 => if iz1 < nb then (if a2 = 0 then (some (.inr (z1.2.1 6 iz1 0), z1.2)) else (if a2 = 1 then (some (.inr (z1.2.1 6 iz1 1), z1.2)) else (if a2 = 2 then (some (.inr (z1.2.1 6 iz1 2), z1.2)) else (if a2 = 3 then (some (.inr (z1.2.1 6 iz1 3), z1.2)) else (if a2 = 4 then (some (.inr (z1.2.1 6 iz1 4), z1.2)) else (if a2 = 5 then ((FX0_placeNow ns nb z1.2 iz1).bind fun z7 => some (.inr z7.1, z7.2)) else (if a2 = 6 then (if (z1.2.1 6 iz1 9) = 0 then (some (.inr 0, z1.2)) else (some (.inr 1, z1.2))) else (if a2 = 7 then (some (.inr (z1.2.1 6 iz1 8), z1.2)) else (if a2 = 8 then (some (.inr ((z1.2.2 6 iz1 11).toInt32), z1.2)) else (if a2 = 9 then (some (.inr (z1.2.1 6 iz1 12), z1.2)) else (some (.inl 1, z1.2)))))))))))) else none)
set_option maxHeartbeats 4000000 in
set_option maxRecDepth 100000 in
theorem nX4_bird (l : Launch) (lo : Nat) (g : Gx) (h : Sh) (σ : Sg) (a1 : Int32) (a2 : Int32)  (r : Int32) (σ1 : Sg) (hF : FX4_bird h.1 h.2.1 σ a1 a2 = some (.inr r, σ1)) : MI l yX4_bird (ws_ yX4_bird cX4_bird 4 (some .int)) 2 42 0 0 lo g h [.ref (h.2.2 0 0), .int a1, .int a2] σ r σ1 := by
  refine ofB (own := RX4) (by decide +kernel) rfl (fun p e s m below meth c C0 hr hlk hlo hK hZ hW hS ls hl => ?_) (Nat.le_of_ble_eq_true rfl)
  have hx := C0.1
  have hb := C0.2.1
  have hl : lv_has ls 4 [(0, .ref (h.2.2 0 0)), (1, .int a1), (2, .int a2)] := hl
  unfold FX4_bird at hF
  refine lv_aload_n hx hb dX4_bird_0 rfl (lv_at hl 0 rfl) ?_
  refine lv_iload_n hx hb dX4_bird_1 rfl (lv_at hl 1 rfl) ?_
  obtain ⟨z1, hz1, hF⟩ := bnd hF
  refine inR (runV C0 hlo hK hZ hW hS (kX4_birdAt l lo g h _ a1  _ _ hz1) wCO_X4_birdAt wML_X4_122 wIM_X4_birdAt wSE_X4_X4_birdAt wIN_X4 hdX4_birdAt ⟨Nat.le_of_ble_eq_true rfl, Nat.le_of_ble_eq_true rfl⟩ (recvK hK hW (al0 h 0 (by decide)) (ct0 0) rfl) rfl hl.1 rfl (Nat.le_of_ble_eq_true rfl) dX4_bird_2 ⟨Nat.le_of_ble_eq_true rfl, Nat.le_of_ble_eq_true rfl⟩) hS (fun H locs hW hS => ?_)
  refine nspl (fun nz1 => ?_) (fun iz1 nz1 => ?_)
  · rw [nz1, oc_n] at hF
    refine lv_astore_nN (lv' := [(3, .null), (0, .ref (h.2.2 0 0)), (1, .int a1), (2, .int a2)]) hx hb dX4_bird_5 rfl hl (by decide) rfl (fun ls hl => ?_)
    refine lv_aload_nN hx hb dX4_bird_6 rfl (lv_at hl 0 rfl) ?_
    refine lv_ifnonnullN hx hb dX4_bird_7 ?_
    cases hF
  · rw [nz1, oc_s] at hF
    obtain ⟨hiz1, hF⟩ := grp hF
    refine lv_astore_n (lv' := [(3, .ref (h.2.2 6 iz1)), (0, .ref (h.2.2 0 0)), (1, .int a1), (2, .int a2)]) hx hb dX4_bird_5 rfl hl (by decide) rfl (fun ls hl => ?_)
    refine lv_aload_n hx hb dX4_bird_6 rfl (lv_at hl 0 rfl) ?_
    refine lv_ifnonnull (tgt := 20) hx hb dX4_bird_7 (by decide) ?_
    refine lv_iload_n hx hb dX4_bird_20 rfl (lv_at hl 3 rfl) ?_
    by_cases c2 : a2 = 0
    · rw [if_pos c2] at hF
      refine lv_tableIn (tgt := 76) (off := 55) hx hb dX4_bird_21 (by rw [c2]; decide) (by rw [c2]; decide) (by rw [c2]; decide) (by decide) ?_
      refine lv_aload_n hx hb dX4_bird_76 rfl (lv_at hl 0 rfl) ?_
      refine get6 C0 hK hW iz1 (al6 6 hiz1 (by decide)) 0 (by decide) wFL_X4_131 rfl rfl dX4_bird_77 ?_
      cases hF
      exact retI C0 hr hlk hW hS dX4_bird_80
    · rw [if_neg c2] at hF
      by_cases c3 : a2 = 1
      · rw [if_pos c3] at hF
        refine lv_tableIn (tgt := 81) (off := 60) hx hb dX4_bird_21 (by rw [c3]; decide) (by rw [c3]; decide) (by rw [c3]; decide) (by decide) ?_
        refine lv_aload_n hx hb dX4_bird_81 rfl (lv_at hl 0 rfl) ?_
        refine get6 C0 hK hW iz1 (al6 6 hiz1 (by decide)) 1 (by decide) wFL_X4_203 rfl rfl dX4_bird_82 ?_
        cases hF
        exact retI C0 hr hlk hW hS dX4_bird_85
      · rw [if_neg c3] at hF
        by_cases c4 : a2 = 2
        · rw [if_pos c4] at hF
          refine lv_tableIn (tgt := 86) (off := 65) hx hb dX4_bird_21 (by rw [c4]; decide) (by rw [c4]; decide) (by rw [c4]; decide) (by decide) ?_
          refine lv_aload_n hx hb dX4_bird_86 rfl (lv_at hl 0 rfl) ?_
          refine get6 C0 hK hW iz1 (al6 6 hiz1 (by decide)) 2 (by decide) wFL_X4_193 rfl rfl dX4_bird_87 ?_
          cases hF
          exact retI C0 hr hlk hW hS dX4_bird_90
        · rw [if_neg c4] at hF
          by_cases c5 : a2 = 3
          · rw [if_pos c5] at hF
            refine lv_tableIn (tgt := 91) (off := 70) hx hb dX4_bird_21 (by rw [c5]; decide) (by rw [c5]; decide) (by rw [c5]; decide) (by decide) ?_
            refine lv_aload_n hx hb dX4_bird_91 rfl (lv_at hl 0 rfl) ?_
            refine get6 C0 hK hW iz1 (al6 6 hiz1 (by decide)) 3 (by decide) wFL_X4_206 rfl rfl dX4_bird_92 ?_
            cases hF
            exact retI C0 hr hlk hW hS dX4_bird_95
          · rw [if_neg c5] at hF
            by_cases c6 : a2 = 4
            · rw [if_pos c6] at hF
              refine lv_tableIn (tgt := 96) (off := 75) hx hb dX4_bird_21 (by rw [c6]; decide) (by rw [c6]; decide) (by rw [c6]; decide) (by decide) ?_
              refine lv_aload_n hx hb dX4_bird_96 rfl (lv_at hl 0 rfl) ?_
              refine get6 C0 hK hW iz1 (al6 6 hiz1 (by decide)) 4 (by decide) wFL_X4_209 rfl rfl dX4_bird_97 ?_
              cases hF
              exact retI C0 hr hlk hW hS dX4_bird_100
            · rw [if_neg c6] at hF
              by_cases c8 : a2 = 5
              · rw [if_pos c8] at hF
                refine lv_tableIn (tgt := 101) (off := 80) hx hb dX4_bird_21 (by rw [c8]; decide) (by rw [c8]; decide) (by rw [c8]; decide) (by decide) ?_
                refine lv_aload_n hx hb dX4_bird_101 rfl (lv_at hl 0 rfl) ?_
                obtain ⟨z7, hz7, hF⟩ := bnd hF
                refine inI (runV C0 hlo hK hZ hW hS (kX0_placeNow l lo g h _ iz1 hiz1 _ _ hz7) wCO_X0_placeNow wML_X4_212 wIM_X0_placeNow wSE_X0_X0_placeNow wIN_X0 hdX0_placeNow ⟨Nat.le_of_ble_eq_true rfl, Nat.le_of_ble_eq_true rfl⟩ (recvK hK hW (al6 6 hiz1 (by decide)) (ct6 iz1) rfl) rfl hl.1 rfl (Nat.le_of_ble_eq_true rfl) dX4_bird_102 ⟨Nat.le_of_ble_eq_true rfl, Nat.le_of_ble_eq_true rfl⟩) hS (fun H locs hW hS => ?_)
                cases hF
                exact retI C0 hr hlk hW hS dX4_bird_105
              · rw [if_neg c8] at hF
                by_cases c10 : a2 = 6
                · rw [if_pos c10] at hF
                  refine lv_tableIn (tgt := 106) (off := 85) hx hb dX4_bird_21 (by rw [c10]; decide) (by rw [c10]; decide) (by rw [c10]; decide) (by decide) ?_
                  refine lv_aload_n hx hb dX4_bird_106 rfl (lv_at hl 0 rfl) ?_
                  refine get6 C0 hK hW iz1 (al6 6 hiz1 (by decide)) 9 (by decide) wFL_X4_128 rfl rfl dX4_bird_107 ?_
                  refine lv_if_eq (tgt := 117) hx hb dX4_bird_110 (by decide) (fun c9 => ?_) (fun c9 => ?_)
                  · rw [if_pos c9] at hF
                    refine lv_iconst (v := 0) hx hb dX4_bird_117 (by decide) ?_
                    cases hF
                    exact retI C0 hr hlk hW hS dX4_bird_118
                  · rw [if_neg c9] at hF
                    refine lv_iconst (v := 1) hx hb dX4_bird_113 (by decide) ?_
                    refine lv_goto (tgt := 118) hx hb dX4_bird_114 (by decide) ?_
                    cases hF
                    exact retI C0 hr hlk hW hS dX4_bird_118
                · rw [if_neg c10] at hF
                  by_cases c11 : a2 = 7
                  · rw [if_pos c11] at hF
                    refine lv_tableIn (tgt := 119) (off := 98) hx hb dX4_bird_21 (by rw [c11]; decide) (by rw [c11]; decide) (by rw [c11]; decide) (by decide) ?_
                    refine lv_aload_n hx hb dX4_bird_119 rfl (lv_at hl 0 rfl) ?_
                    refine get6 C0 hK hW iz1 (al6 6 hiz1 (by decide)) 8 (by decide) wFL_X4_150 rfl rfl dX4_bird_120 ?_
                    cases hF
                    exact retI C0 hr hlk hW hS dX4_bird_123
                  · rw [if_neg c11] at hF
                    by_cases c12 : a2 = 8
                    · rw [if_pos c12] at hF
                      refine lv_tableIn (tgt := 124) (off := 103) hx hb dX4_bird_21 (by rw [c12]; decide) (by rw [c12]; decide) (by rw [c12]; decide) (by decide) ?_
                      refine lv_aload_n hx hb dX4_bird_124 rfl (lv_at hl 0 rfl) ?_
                      refine get6 C0 hK hW iz1 (al6 6 hiz1 (by decide)) 11 (by decide) wFL_X4_216 rfl rfl dX4_bird_125 ?_
                      refine lv_l2i hx hb dX4_bird_128 rfl ?_
                      cases hF
                      exact retI C0 hr hlk hW hS dX4_bird_129
                    · rw [if_neg c12] at hF
                      by_cases c13 : a2 = 9
                      · rw [if_pos c13] at hF
                        refine lv_tableIn (tgt := 130) (off := 109) hx hb dX4_bird_21 (by rw [c13]; decide) (by rw [c13]; decide) (by rw [c13]; decide) (by decide) ?_
                        refine lv_aload_n hx hb dX4_bird_130 rfl (lv_at hl 0 rfl) ?_
                        refine get6 C0 hK hW iz1 (al6 6 hiz1 (by decide)) 12 (by decide) wFL_X4_219 rfl rfl dX4_bird_131 ?_
                        cases hF
                        exact retI C0 hr hlk hW hS dX4_bird_134
                      · rw [if_neg c13] at hF
                        have t0 := lv_neT c2 (a := 0) (by decide)
                        have t1 := lv_neT c3 (a := 1) (by decide)
                        have t2 := lv_neT c4 (a := 2) (by decide)
                        have t3 := lv_neT c5 (a := 3) (by decide)
                        have t4 := lv_neT c6 (a := 4) (by decide)
                        have t5 := lv_neT c8 (a := 5) (by decide)
                        have t6 := lv_neT c10 (a := 6) (by decide)
                        have t7 := lv_neT c11 (a := 7) (by decide)
                        have t8 := lv_neT c12 (a := 8) (by decide)
                        have t9 := lv_neT c13 (a := 9) (by decide)
                        refine lv_tableOut (tgt := 135) hx hb dX4_bird_21 (by omega) (by decide) ?_
                        cases hF
theorem hdX4_lift : yX4_lift.cls = RX4 ∧ yX4_lift.cls ≠ "java/lang/invoke/MethodHandle" ∧ yX4_lift.cls ≠ "java/lang/invoke/VarHandle" ∧ (parseMethodDescriptor yX4_lift.desc).map (fun d => d.parameters.length) = some 3 := by decide +kernel
def FX4_lift (ns nb : Nat) (σ : Sg) (a1 : Int32) (a2 : Int32) (a3 : Int32) : Option ((Nat ⊕ Int32) × Sg) :=
  (FX4_birdAt ns nb σ a1).bind fun z1 => oc z1.1 (some (.inl 1, z1.2)) (fun iz1 => if iz1 < nb then ((FX0_camAt ns nb z1.2 iz1 a2).bind fun z2 => oc z2.1 (some (.inl 1, z2.2)) (fun iz2 => if iz2 < 3 * nb then (if a3 = (-1) then (if a3 = (-1) then ((FX0_placeNow ns nb z2.2 iz1).bind fun z6 => (FX4_at ns nb z6.2 12 iz2 z6.1).bind fun z7 => some (.inr z7.1, z7.2)) else ((FX4_at ns nb z2.2 12 iz2 a3).bind fun z5 => some (.inr z5.1, z5.2))) else ((FX0_hasPlace ns nb z2.2 iz1 a3).bind fun z8 => if z8.1 = 0 then (some (.inl 2, z8.2)) else (if a3 = (-1) then ((FX0_placeNow ns nb z8.2 iz1).bind fun z12 => (FX4_at ns nb z12.2 12 iz2 z12.1).bind fun z13 => some (.inr z13.1, z13.2)) else ((FX4_at ns nb z8.2 12 iz2 a3).bind fun z11 => some (.inr z11.1, z11.2))))) else none)) else none)
set_option maxHeartbeats 4000000 in
set_option maxRecDepth 100000 in
theorem nX4_lift (l : Launch) (lo : Nat) (g : Gx) (h : Sh) (σ : Sg) (a1 : Int32) (a2 : Int32) (a3 : Int32)  (r : Int32) (σ1 : Sg) (hF : FX4_lift h.1 h.2.1 σ a1 a2 a3 = some (.inr r, σ1)) : MI l yX4_lift (ws_ yX4_lift cX4_lift 6 (some .int)) 2 43 0 0 lo g h [.ref (h.2.2 0 0), .int a1, .int a2, .int a3] σ r σ1 := by
  refine ofB (own := RX4) (by decide +kernel) rfl (fun p e s m below meth c C0 hr hlk hlo hK hZ hW hS ls hl => ?_) (Nat.le_of_ble_eq_true rfl)
  have hx := C0.1
  have hb := C0.2.1
  have hl : lv_has ls 6 [(0, .ref (h.2.2 0 0)), (1, .int a1), (2, .int a2), (3, .int a3)] := hl
  unfold FX4_lift at hF
  refine lv_aload_n hx hb dX4_lift_0 rfl (lv_at hl 0 rfl) ?_
  refine lv_iload_n hx hb dX4_lift_1 rfl (lv_at hl 1 rfl) ?_
  obtain ⟨z1, hz1, hF⟩ := bnd hF
  refine inR (runV C0 hlo hK hZ hW hS (kX4_birdAt l lo g h _ a1  _ _ hz1) wCO_X4_birdAt wML_X4_122 wIM_X4_birdAt wSE_X4_X4_birdAt wIN_X4 hdX4_birdAt ⟨Nat.le_of_ble_eq_true rfl, Nat.le_of_ble_eq_true rfl⟩ (recvK hK hW (al0 h 0 (by decide)) (ct0 0) rfl) rfl hl.1 rfl (Nat.le_of_ble_eq_true rfl) dX4_lift_2 ⟨Nat.le_of_ble_eq_true rfl, Nat.le_of_ble_eq_true rfl⟩) hS (fun H locs hW hS => ?_)
  refine nspl (fun nz1 => ?_) (fun iz1 nz1 => ?_)
  · rw [nz1, oc_n] at hF
    refine lv_astoreN (lv' := [(4, .null), (0, .ref (h.2.2 0 0)), (1, .int a1), (2, .int a2), (3, .int a3)]) hx hb dX4_lift_5 hl (by decide) rfl (fun ls hl => ?_)
    refine lv_aloadN hx hb dX4_lift_7 (lv_at hl 0 rfl) ?_
    refine lv_ifnonnullN hx hb dX4_lift_9 ?_
    refine lv_null hx hb dX4_lift_12 ?_
    refine lv_goto (tgt := 22) hx hb dX4_lift_13 (by decide) ?_
    refine lv_astoreN (lv' := [(5, .null), (4, .null), (0, .ref (h.2.2 0 0)), (1, .int a1), (2, .int a2), (3, .int a3)]) hx hb dX4_lift_22 hl (by decide) rfl (fun ls hl => ?_)
    refine lv_aloadN hx hb dX4_lift_24 (lv_at hl 1 rfl) ?_
    refine lv_ifnullN (tgt := 34) hx hb dX4_lift_26 (by decide) ?_
    cases hF
  · rw [nz1, oc_s] at hF
    obtain ⟨hiz1, hF⟩ := grp hF
    refine lv_astore (lv' := [(4, .ref (h.2.2 6 iz1)), (0, .ref (h.2.2 0 0)), (1, .int a1), (2, .int a2), (3, .int a3)]) hx hb dX4_lift_5 hl (by decide) rfl (fun ls hl => ?_)
    refine lv_aload hx hb dX4_lift_7 (lv_at hl 0 rfl) ?_
    refine lv_ifnonnull (tgt := 16) hx hb dX4_lift_9 (by decide) ?_
    refine lv_aload hx hb dX4_lift_16 (lv_at hl 0 rfl) ?_
    refine lv_iload_n hx hb dX4_lift_18 rfl (lv_at hl 3 rfl) ?_
    obtain ⟨z2, hz2, hF⟩ := bnd hF
    refine inR (runV C0 hlo hK hZ hW hS (kX0_camAt l lo g h _ iz1 a2 hiz1 _ _ hz2) wCO_X0_camAt wML_X4_173 wIM_X0_camAt wSE_X0_X0_camAt wIN_X0 hdX0_camAt ⟨Nat.le_of_ble_eq_true rfl, Nat.le_of_ble_eq_true rfl⟩ (recvK hK hW (al6 6 hiz1 (by decide)) (ct6 iz1) rfl) rfl hl.1 rfl (Nat.le_of_ble_eq_true rfl) dX4_lift_19 ⟨Nat.le_of_ble_eq_true rfl, Nat.le_of_ble_eq_true rfl⟩) hS (fun H locs hW hS => ?_)
    refine nspl (fun nz2 => ?_) (fun iz2 nz2 => ?_)
    · rw [nz2, oc_n] at hF
      refine lv_astoreN (lv' := [(5, .null), (4, .ref (h.2.2 6 iz1)), (0, .ref (h.2.2 0 0)), (1, .int a1), (2, .int a2), (3, .int a3)]) hx hb dX4_lift_22 hl (by decide) rfl (fun ls hl => ?_)
      refine lv_aload hx hb dX4_lift_24 (lv_at hl 1 rfl) ?_
      refine lv_ifnull hx hb dX4_lift_26 ?_
      refine lv_aloadN hx hb dX4_lift_29 (lv_at hl 0 rfl) ?_
      refine lv_ifnonnullN hx hb dX4_lift_31 ?_
      cases hF
    · rw [nz2, oc_s] at hF
      obtain ⟨hiz2, hF⟩ := grp hF
      refine lv_astore (lv' := [(5, .ref (h.2.2 10 iz2)), (4, .ref (h.2.2 6 iz1)), (0, .ref (h.2.2 0 0)), (1, .int a1), (2, .int a2), (3, .int a3)]) hx hb dX4_lift_22 hl (by decide) rfl (fun ls hl => ?_)
      refine lv_aload hx hb dX4_lift_24 (lv_at hl 1 rfl) ?_
      refine lv_ifnull hx hb dX4_lift_26 ?_
      refine lv_aload hx hb dX4_lift_29 (lv_at hl 0 rfl) ?_
      refine lv_ifnonnull (tgt := 44) hx hb dX4_lift_31 (by decide) ?_
      refine lv_iload_n hx hb dX4_lift_44 rfl (lv_at hl 5 rfl) ?_
      refine lv_iconst (v := (-1)) hx hb dX4_lift_45 (by decide) ?_
      refine lv_icmp_eq (tgt := 68) hx hb dX4_lift_46 (by decide) (fun c3 => ?_) (fun c3 => ?_)
      · rw [if_pos c3] at hF
        refine lv_aload hx hb dX4_lift_68 (lv_at hl 0 rfl) ?_
        refine get10 C0 hK hW iz2 (al10 10 hiz2 (by decide)) 1 (by decide) wFL_X4_226 rfl rfl dX4_lift_70 ?_
        refine lv_iload_n hx hb dX4_lift_73 rfl (lv_at hl 5 rfl) ?_
        refine lv_iconst (v := (-1)) hx hb dX4_lift_74 (by decide) ?_
        refine lv_icmp_ne (tgt := 86) hx hb dX4_lift_75 (by decide) (fun c4 => ?_) (fun c4 => ?_)
        · rw [if_neg c4] at hF
          refine lv_iload_n hx hb dX4_lift_86 rfl (lv_at hl 5 rfl) ?_
          obtain ⟨z5, hz5, hF⟩ := bnd hF
          refine inI (runS C0 hlo hK hZ hW hS (kX4_at l lo g h _ 12 iz2 a3 (al10 12 hiz2 (by decide)) (by decide) _ _ hz5) wCO_X4_at wML_X4_165 wST_X4_at wIN_X4 hdsX4_at ⟨Nat.le_of_ble_eq_true rfl, Nat.le_of_ble_eq_true rfl⟩ rfl hl.1 rfl (Nat.le_of_ble_eq_true rfl) dX4_lift_87 ⟨Nat.le_of_ble_eq_true rfl, Nat.le_of_ble_eq_true rfl⟩) hS (fun H locs hW hS => ?_)
          cases hF
          exact retI C0 hr hlk hW hS dX4_lift_90
        · rw [if_pos c4] at hF
          refine lv_aload hx hb dX4_lift_78 (lv_at hl 1 rfl) ?_
          obtain ⟨z6, hz6, hF⟩ := bnd hF
          refine inI (runV C0 hlo hK hZ hW hS (kX0_placeNow l lo g h _ iz1 hiz1 _ _ hz6) wCO_X0_placeNow wML_X4_212 wIM_X0_placeNow wSE_X0_X0_placeNow wIN_X0 hdX0_placeNow ⟨Nat.le_of_ble_eq_true rfl, Nat.le_of_ble_eq_true rfl⟩ (recvK hK hW (al6 6 hiz1 (by decide)) (ct6 iz1) rfl) rfl hl.1 rfl (Nat.le_of_ble_eq_true rfl) dX4_lift_80 ⟨Nat.le_of_ble_eq_true rfl, Nat.le_of_ble_eq_true rfl⟩) hS (fun H locs hW hS => ?_)
          refine lv_goto (tgt := 87) hx hb dX4_lift_83 (by decide) ?_
          obtain ⟨z7, hz7, hF⟩ := bnd hF
          refine inI (runS C0 hlo hK hZ hW hS (kX4_at l lo g h _ 12 iz2 z6.1 (al10 12 hiz2 (by decide)) (by decide) _ _ hz7) wCO_X4_at wML_X4_165 wST_X4_at wIN_X4 hdsX4_at ⟨Nat.le_of_ble_eq_true rfl, Nat.le_of_ble_eq_true rfl⟩ rfl hl.1 rfl (Nat.le_of_ble_eq_true rfl) dX4_lift_87 ⟨Nat.le_of_ble_eq_true rfl, Nat.le_of_ble_eq_true rfl⟩) hS (fun H locs hW hS => ?_)
          cases hF
          exact retI C0 hr hlk hW hS dX4_lift_90
      · rw [if_neg c3] at hF
        refine lv_aload hx hb dX4_lift_49 (lv_at hl 1 rfl) ?_
        refine lv_iload_n hx hb dX4_lift_51 rfl (lv_at hl 5 rfl) ?_
        obtain ⟨z8, hz8, hF⟩ := bnd hF
        refine inI (runV C0 hlo hK hZ hW hS (kX0_hasPlace l lo g h _ iz1 a3 hiz1 _ _ hz8) wCO_X0_hasPlace wML_X4_138 wIM_X0_hasPlace wSE_X0_X0_hasPlace wIN_X0 hdX0_hasPlace ⟨Nat.le_of_ble_eq_true rfl, Nat.le_of_ble_eq_true rfl⟩ (recvK hK hW (al6 6 hiz1 (by decide)) (ct6 iz1) rfl) rfl hl.1 rfl (Nat.le_of_ble_eq_true rfl) dX4_lift_52 ⟨Nat.le_of_ble_eq_true rfl, Nat.le_of_ble_eq_true rfl⟩) hS (fun H locs hW hS => ?_)
        refine lv_if_ne (tgt := 68) hx hb dX4_lift_55 (by decide) (fun c9 => ?_) (fun c9 => ?_)
        · rw [if_neg c9] at hF
          refine lv_aload hx hb dX4_lift_68 (lv_at hl 0 rfl) ?_
          refine get10 C0 hK hW iz2 (al10 10 hiz2 (by decide)) 1 (by decide) wFL_X4_226 rfl rfl dX4_lift_70 ?_
          refine lv_iload_n hx hb dX4_lift_73 rfl (lv_at hl 5 rfl) ?_
          refine lv_iconst (v := (-1)) hx hb dX4_lift_74 (by decide) ?_
          refine lv_icmp_ne (tgt := 86) hx hb dX4_lift_75 (by decide) (fun c10 => ?_) (fun c10 => ?_)
          · rw [if_neg c10] at hF
            refine lv_iload_n hx hb dX4_lift_86 rfl (lv_at hl 5 rfl) ?_
            obtain ⟨z11, hz11, hF⟩ := bnd hF
            refine inI (runS C0 hlo hK hZ hW hS (kX4_at l lo g h _ 12 iz2 a3 (al10 12 hiz2 (by decide)) (by decide) _ _ hz11) wCO_X4_at wML_X4_165 wST_X4_at wIN_X4 hdsX4_at ⟨Nat.le_of_ble_eq_true rfl, Nat.le_of_ble_eq_true rfl⟩ rfl hl.1 rfl (Nat.le_of_ble_eq_true rfl) dX4_lift_87 ⟨Nat.le_of_ble_eq_true rfl, Nat.le_of_ble_eq_true rfl⟩) hS (fun H locs hW hS => ?_)
            cases hF
            exact retI C0 hr hlk hW hS dX4_lift_90
          · rw [if_pos c10] at hF
            refine lv_aload hx hb dX4_lift_78 (lv_at hl 1 rfl) ?_
            obtain ⟨z12, hz12, hF⟩ := bnd hF
            refine inI (runV C0 hlo hK hZ hW hS (kX0_placeNow l lo g h _ iz1 hiz1 _ _ hz12) wCO_X0_placeNow wML_X4_212 wIM_X0_placeNow wSE_X0_X0_placeNow wIN_X0 hdX0_placeNow ⟨Nat.le_of_ble_eq_true rfl, Nat.le_of_ble_eq_true rfl⟩ (recvK hK hW (al6 6 hiz1 (by decide)) (ct6 iz1) rfl) rfl hl.1 rfl (Nat.le_of_ble_eq_true rfl) dX4_lift_80 ⟨Nat.le_of_ble_eq_true rfl, Nat.le_of_ble_eq_true rfl⟩) hS (fun H locs hW hS => ?_)
            refine lv_goto (tgt := 87) hx hb dX4_lift_83 (by decide) ?_
            obtain ⟨z13, hz13, hF⟩ := bnd hF
            refine inI (runS C0 hlo hK hZ hW hS (kX4_at l lo g h _ 12 iz2 z12.1 (al10 12 hiz2 (by decide)) (by decide) _ _ hz13) wCO_X4_at wML_X4_165 wST_X4_at wIN_X4 hdsX4_at ⟨Nat.le_of_ble_eq_true rfl, Nat.le_of_ble_eq_true rfl⟩ rfl hl.1 rfl (Nat.le_of_ble_eq_true rfl) dX4_lift_87 ⟨Nat.le_of_ble_eq_true rfl, Nat.le_of_ble_eq_true rfl⟩) hS (fun H locs hW hS => ?_)
            cases hF
            exact retI C0 hr hlk hW hS dX4_lift_90
        · rw [if_pos c9] at hF
          cases hF
theorem hdX4_run : yX4_run.cls = RX4 ∧ yX4_run.cls ≠ "java/lang/invoke/MethodHandle" ∧ yX4_run.cls ≠ "java/lang/invoke/VarHandle" ∧ (parseMethodDescriptor yX4_run.desc).map (fun d => d.parameters.length) = some 1 := by decide +kernel
def LX4_run_25 (ns nb : Nat) (v1 : Int32) : Nat → Int32 → Int32 → Sg → Option (Int32 × Sg)
  | 0, _, _, _ => none
  | n + 1, v2, v3, σ => if v1 ≤ v3 then (some (v2, σ)) else ((FX4_goOneTick ns nb σ ).bind fun z4 => LX4_run_25 ns nb v1 n (v2 + z4.1) (v3 + 1) z4.2)
def FX4_run (ns nb : Nat) (σ : Sg) (a1 : Int32) : Option ((Nat ⊕ Int32) × Sg) :=
  (FX4_isIn ns nb σ a1 1 500).bind fun z1 => if z1.1 = 0 then (some (.inl 2, z1.2)) else ((LX4_run_25 ns nb a1 4100 0 0 z1.2).bind fun z5 => some (.inr z5.1, z5.2))
set_option maxHeartbeats 4000000 in
set_option maxRecDepth 100000 in
theorem lX4_run_25 {p : Program} {l : Launch} {e : Env} {s : State} {m : MethodId} {args : Array Value} {below : List Frame} {meth : Method} {c : Code} {Q : State → Prop} {lo : Nat} {g : Gx} {h : Sh} (C0 : CallFix p m c cX4_run 4 s args wB RX4) (hlo : lo ≤ s.heap.size) (hK : KW g s) (hZ : ZW lo s s.heap) (v1 : Int32)  : ∀ (n : Nat) (v2 : Int32) (v3 : Int32) (σ : Sg) (z : (Int32 × Sg)) (hF : LX4_run_25 h.1 h.2.1 v1 n v2 v3 σ = some z) (H : Heap) (locs : List Loc) (ls : Array Slot) (hW : FW g h (Ax lo) σ H) (hS : va_S (Ax lo) s.heap H locs) (hl : lv_has ls 4 [(0, .ref (h.2.2 0 0)), (1, .int v1), (2, .int v2), (3, .int v3)]) (kk : ∀ (H : Heap) (locs : List Loc) (ls : Array Slot), FW g h (Ax lo) z.2 H → va_S (Ax lo) s.heap H locs → lv_has ls 4 [(2, .int z.1)] → W p l e { frames := 6, cells := 0, slots := 0, locals := 150 } s m args below meth c H locs 0 0 Q (F0 m 43 ls [])), W p l e { frames := 6, cells := 0, slots := 0, locals := 150 } s m args below meth c H locs 0 0 Q (F0 m 25 ls []) := by
  have hx := C0.1
  have hb := C0.2.1
  intro n
  induction n with
  | zero =>
    intro v2 v3 σ z hF
    rw [LX4_run_25] at hF
    cases hF
  | succ n ih =>
    intro v2 v3 σ z hF H locs ls hW hS hl kk
    rw [LX4_run_25] at hF
    refine lv_iload_n hx hb dX4_run_25 rfl (lv_at hl 3 rfl) ?_
    refine lv_iload_n hx hb dX4_run_26 rfl (lv_at hl 1 rfl) ?_
    refine lv_icmp_ge (tgt := 43) hx hb dX4_run_27 (by decide) (fun c3 => ?_) (fun c3 => ?_)
    · rw [if_pos c3] at hF
      cases hF
      exact kk _ _ _ hW hS (lv_sub hl [2] rfl)
    · rw [if_neg c3] at hF
      refine lv_iload_n hx hb dX4_run_30 rfl (lv_at hl 2 rfl) ?_
      refine lv_aload_n hx hb dX4_run_31 rfl (lv_at hl 0 rfl) ?_
      obtain ⟨z4, hz4, hF⟩ := bnd hF
      refine inI (runV C0 hlo hK hZ hW hS (kX4_goOneTick l lo g h _   _ _ hz4) wCO_X4_goOneTick wML_X4_231 wIM_X4_goOneTick wSE_X4_X4_goOneTick wIN_X4 hdX4_goOneTick ⟨Nat.le_of_ble_eq_true rfl, Nat.le_of_ble_eq_true rfl⟩ (recvK hK hW (al0 h 0 (by decide)) (ct0 0) rfl) rfl hl.1 rfl (Nat.le_of_ble_eq_true rfl) dX4_run_32 ⟨Nat.le_of_ble_eq_true rfl, Nat.le_of_ble_eq_true rfl⟩) hS (fun H locs hW hS => ?_)
      refine lv_iadd hx hb dX4_run_35 ?_
      refine lv_istore_n (lv' := [(2, .int (v2 + z4.1)), (0, .ref (h.2.2 0 0)), (1, .int v1), (3, .int v3)]) hx hb dX4_run_36 rfl hl (by decide) rfl (fun ls hl => ?_)
      refine lv_iinc (v := v3 + 1) (lv' := [(3, .int (v3 + 1)), (2, .int (v2 + z4.1)), (0, .ref (h.2.2 0 0)), (1, .int v1)]) hx hb dX4_run_37 hl (k := 3) rfl rfl (by decide) rfl (fun ls hl => ?_)
      refine lv_goto (tgt := 25) hx hb dX4_run_40 (by decide) ?_
      exact ih (v2 + z4.1) (v3 + 1) z4.2 z hF _ _ _ hW hS (lv_sub hl [2, 3, 1, 0] rfl) kk
set_option maxHeartbeats 4000000 in
set_option maxRecDepth 100000 in
theorem nX4_run (l : Launch) (lo : Nat) (g : Gx) (h : Sh) (σ : Sg) (a1 : Int32)  (r : Int32) (σ1 : Sg) (hF : FX4_run h.1 h.2.1 σ a1 = some (.inr r, σ1)) : MI l yX4_run (ws_ yX4_run cX4_run 4 (some .int)) 6 150 0 0 lo g h [.ref (h.2.2 0 0), .int a1] σ r σ1 := by
  refine ofB (own := RX4) (by decide +kernel) rfl (fun p e s m below meth c C0 hr hlk hlo hK hZ hW hS ls hl => ?_) (Nat.le_of_ble_eq_true rfl)
  have hx := C0.1
  have hb := C0.2.1
  have hl : lv_has ls 4 [(0, .ref (h.2.2 0 0)), (1, .int a1)] := hl
  unfold FX4_run at hF
  refine lv_iload_n hx hb dX4_run_0 rfl (lv_at hl 1 rfl) ?_
  refine lv_iconst (v := 1) hx hb dX4_run_1 (by decide) ?_
  refine lv_sipush (v := 500) hx hb dX4_run_2 (by decide) ?_
  obtain ⟨z1, hz1, hF⟩ := bnd hF
  refine inI (runS C0 hlo hK hZ hW hS (kX4_isIn l lo g h _ a1 1 500  _ _ hz1) wCO_X4_isIn wML_X4_28 wST_X4_isIn wIN_X4 hdsX4_isIn ⟨Nat.le_of_ble_eq_true rfl, Nat.le_of_ble_eq_true rfl⟩ rfl hl.1 rfl (Nat.le_of_ble_eq_true rfl) dX4_run_5 ⟨Nat.le_of_ble_eq_true rfl, Nat.le_of_ble_eq_true rfl⟩) hS (fun H locs hW hS => ?_)
  refine lv_if_ne (tgt := 21) hx hb dX4_run_8 (by decide) (fun c2 => ?_) (fun c2 => ?_)
  · rw [if_neg c2] at hF
    refine lv_iconst (v := 0) hx hb dX4_run_21 (by decide) ?_
    refine lv_istore_n (lv' := [(2, .int 0), (0, .ref (h.2.2 0 0)), (1, .int a1)]) hx hb dX4_run_22 rfl hl (by decide) rfl (fun ls hl => ?_)
    refine lv_iconst (v := 0) hx hb dX4_run_23 (by decide) ?_
    refine lv_istore_n (lv' := [(3, .int 0), (2, .int 0), (0, .ref (h.2.2 0 0)), (1, .int a1)]) hx hb dX4_run_24 rfl hl (by decide) rfl (fun ls hl => ?_)
    obtain ⟨z5, hz5, hF⟩ := bnd hF
    refine lX4_run_25 C0 hlo hK hZ a1  _ 0 0 _ z5 hz5 _ _ _ hW hS (lv_sub hl [2, 3, 1, 0] rfl) (fun H locs ls hW hS hl => ?_)
    refine lv_iload_n hx hb dX4_run_43 rfl (lv_at hl 0 rfl) ?_
    cases hF
    exact retI C0 hr hlk hW hS dX4_run_44
  · rw [if_pos c2] at hF
    cases hF
theorem hdX4_count : yX4_count.cls = RX4 ∧ yX4_count.cls ≠ "java/lang/invoke/MethodHandle" ∧ yX4_count.cls ≠ "java/lang/invoke/VarHandle" ∧ (parseMethodDescriptor yX4_count.desc).map (fun d => d.parameters.length) = some 1 := by decide +kernel
def FX4_count (ns nb : Nat) (σ : Sg) (a1 : Int32) : Option ((Nat ⊕ Int32) × Sg) :=
  if a1 = 0 then (some (.inr (σ.1 0 0 6), σ)) else (if a1 = 1 then (some (.inr (σ.1 0 0 3), σ)) else (if a1 = 2 then (some (.inr (σ.1 0 0 4), σ)) else (if a1 = 3 then ((FJ6_bitCount_0f7a4 ns nb σ (σ.1 0 0 5)).bind fun z4 => some (.inr z4.1, z4.2)) else (if a1 = 4 then (some (.inr (σ.1 3 0 2), σ)) else (if a1 = 5 then ((FX4_heldByAll ns nb σ ).bind fun z7 => some (.inr z7.1, z7.2)) else (some (.inl 1, σ)))))))
set_option maxHeartbeats 4000000 in
set_option maxRecDepth 100000 in
theorem nX4_count (l : Launch) (lo : Nat) (g : Gx) (h : Sh) (σ : Sg) (a1 : Int32)  (r : Int32) (σ1 : Sg) (hF : FX4_count h.1 h.2.1 σ a1 = some (.inr r, σ1)) : MI l yX4_count (ws_ yX4_count cX4_count 2 (some .int)) 1 25 0 0 lo g h [.ref (h.2.2 0 0), .int a1] σ r σ1 := by
  refine ofB (own := RX4) (by decide +kernel) rfl (fun p e s m below meth c C0 hr hlk hlo hK hZ hW hS ls hl => ?_) (Nat.le_of_ble_eq_true rfl)
  have hx := C0.1
  have hb := C0.2.1
  have hl : lv_has ls 2 [(0, .ref (h.2.2 0 0)), (1, .int a1)] := hl
  unfold FX4_count at hF
  refine lv_iload_n hx hb dX4_count_0 rfl (lv_at hl 1 rfl) ?_
  by_cases c1 : a1 = 0
  · rw [if_pos c1] at hF
    refine lv_tableIn (tgt := 40) (off := 39) hx hb dX4_count_1 (by rw [c1]; decide) (by rw [c1]; decide) (by rw [c1]; decide) (by decide) ?_
    refine lv_aload_n hx hb dX4_count_40 rfl (lv_at hl 0 rfl) ?_
    refine get0 C0 hK hW 0 (al0 h 0 (by decide)) 6 (by decide) wFL_X4_234 rfl rfl dX4_count_41 ?_
    cases hF
    exact retI C0 hr hlk hW hS dX4_count_44
  · rw [if_neg c1] at hF
    by_cases c2 : a1 = 1
    · rw [if_pos c2] at hF
      refine lv_tableIn (tgt := 45) (off := 44) hx hb dX4_count_1 (by rw [c2]; decide) (by rw [c2]; decide) (by rw [c2]; decide) (by decide) ?_
      refine lv_aload_n hx hb dX4_count_45 rfl (lv_at hl 0 rfl) ?_
      refine get0 C0 hK hW 0 (al0 h 0 (by decide)) 3 (by decide) wFL_X4_39 rfl rfl dX4_count_46 ?_
      cases hF
      exact retI C0 hr hlk hW hS dX4_count_49
    · rw [if_neg c2] at hF
      by_cases c3 : a1 = 2
      · rw [if_pos c3] at hF
        refine lv_tableIn (tgt := 50) (off := 49) hx hb dX4_count_1 (by rw [c3]; decide) (by rw [c3]; decide) (by rw [c3]; decide) (by decide) ?_
        refine lv_aload_n hx hb dX4_count_50 rfl (lv_at hl 0 rfl) ?_
        refine get0 C0 hK hW 0 (al0 h 0 (by decide)) 4 (by decide) wFL_X4_114 rfl rfl dX4_count_51 ?_
        cases hF
        exact retI C0 hr hlk hW hS dX4_count_54
      · rw [if_neg c3] at hF
        by_cases c5 : a1 = 3
        · rw [if_pos c5] at hF
          refine lv_tableIn (tgt := 55) (off := 54) hx hb dX4_count_1 (by rw [c5]; decide) (by rw [c5]; decide) (by rw [c5]; decide) (by decide) ?_
          refine lv_aload_n hx hb dX4_count_55 rfl (lv_at hl 0 rfl) ?_
          refine get0 C0 hK hW 0 (al0 h 0 (by decide)) 5 (by decide) wFL_X4_81 rfl rfl dX4_count_56 ?_
          obtain ⟨z4, hz4, hF⟩ := bnd hF
          refine inI (runS C0 hlo hK hZ hW hS (kJ6_bitCount_0f7a4 l lo g h _ (σ.1 0 0 5)  _ _ hz4) wCO_J6_bitCount_0f7a4 wML_X4_84 wST_J6_bitCount_0f7a4 wIN_J6 hdsJ6_bitCount_0f7a4 ⟨Nat.le_of_ble_eq_true rfl, Nat.le_of_ble_eq_true rfl⟩ rfl hl.1 rfl (Nat.le_of_ble_eq_true rfl) dX4_count_59 ⟨Nat.le_of_ble_eq_true rfl, Nat.le_of_ble_eq_true rfl⟩) hS (fun H locs hW hS => ?_)
          cases hF
          exact retI C0 hr hlk hW hS dX4_count_62
        · rw [if_neg c5] at hF
          by_cases c6 : a1 = 4
          · rw [if_pos c6] at hF
            refine lv_tableIn (tgt := 63) (off := 62) hx hb dX4_count_1 (by rw [c6]; decide) (by rw [c6]; decide) (by rw [c6]; decide) (by decide) ?_
            refine lv_aload_n hx hb dX4_count_63 rfl (lv_at hl 0 rfl) ?_
            refine get0 C0 hK hW 0 (al0 h 0 (by decide)) 2 (by decide) wFL_X4_24 rfl rfl dX4_count_64 ?_
            refine get3 C0 hK hW 0 (al0 h 3 (by decide)) 2 (by decide) wFL_X4_237 rfl rfl dX4_count_67 ?_
            cases hF
            exact retI C0 hr hlk hW hS dX4_count_70
          · rw [if_neg c6] at hF
            by_cases c8 : a1 = 5
            · rw [if_pos c8] at hF
              refine lv_tableIn (tgt := 71) (off := 70) hx hb dX4_count_1 (by rw [c8]; decide) (by rw [c8]; decide) (by rw [c8]; decide) (by decide) ?_
              refine lv_aload_n hx hb dX4_count_71 rfl (lv_at hl 0 rfl) ?_
              obtain ⟨z7, hz7, hF⟩ := bnd hF
              refine inI (runV C0 hlo hK hZ hW hS (kX4_heldByAll l lo g h _   _ _ hz7) wCO_X4_heldByAll wML_X4_240 wIM_X4_heldByAll wSE_X4_X4_heldByAll wIN_X4 hdX4_heldByAll ⟨Nat.le_of_ble_eq_true rfl, Nat.le_of_ble_eq_true rfl⟩ (recvK hK hW (al0 h 0 (by decide)) (ct0 0) rfl) rfl hl.1 rfl (Nat.le_of_ble_eq_true rfl) dX4_count_72 ⟨Nat.le_of_ble_eq_true rfl, Nat.le_of_ble_eq_true rfl⟩) hS (fun H locs hW hS => ?_)
              cases hF
              exact retI C0 hr hlk hW hS dX4_count_75
            · rw [if_neg c8] at hF
              have t0 := lv_neT c1 (a := 0) (by decide)
              have t1 := lv_neT c2 (a := 1) (by decide)
              have t2 := lv_neT c3 (a := 2) (by decide)
              have t3 := lv_neT c5 (a := 3) (by decide)
              have t4 := lv_neT c6 (a := 4) (by decide)
              have t5 := lv_neT c8 (a := 5) (by decide)
              refine lv_tableOut (tgt := 76) hx hb dX4_count_1 (by omega) (by decide) ?_
              cases hF
theorem hdX4_sung : yX4_sung.cls = RX4 ∧ yX4_sung.cls ≠ "java/lang/invoke/MethodHandle" ∧ yX4_sung.cls ≠ "java/lang/invoke/VarHandle" ∧ (parseMethodDescriptor yX4_sung.desc).map (fun d => d.parameters.length) = some 2 := by decide +kernel
def FX4_sung (ns nb : Nat) (σ : Sg) (a1 : Int32) (a2 : Int32) : Option ((Nat ⊕ Int32) × Sg) :=
  (FX4_isIn ns nb σ a1 0 ((σ.1 3 0 1) - 1)).bind fun z1 => if z1.1 = 0 then (some (.inl 1, z1.2)) else ((FX4_isIn ns nb z1.2 a2 0 3).bind fun z3 => if z3.1 = 0 then (some (.inl 1, z3.2)) else ((FX2_told ns nb z3.2 a1 a2).bind fun z5 => some (.inr z5.1, z5.2)))
set_option maxHeartbeats 4000000 in
set_option maxRecDepth 100000 in
theorem nX4_sung (l : Launch) (lo : Nat) (g : Gx) (h : Sh) (σ : Sg) (a1 : Int32) (a2 : Int32)  (r : Int32) (σ1 : Sg) (hF : FX4_sung h.1 h.2.1 σ a1 a2 = some (.inr r, σ1)) : MI l yX4_sung (ws_ yX4_sung cX4_sung 3 (some .int)) 2 43 0 0 lo g h [.ref (h.2.2 0 0), .int a1, .int a2] σ r σ1 := by
  refine ofB (own := RX4) (by decide +kernel) rfl (fun p e s m below meth c C0 hr hlk hlo hK hZ hW hS ls hl => ?_) (Nat.le_of_ble_eq_true rfl)
  have hx := C0.1
  have hb := C0.2.1
  have hl : lv_has ls 3 [(0, .ref (h.2.2 0 0)), (1, .int a1), (2, .int a2)] := hl
  unfold FX4_sung at hF
  refine lv_iload_n hx hb dX4_sung_0 rfl (lv_at hl 1 rfl) ?_
  refine lv_iconst (v := 0) hx hb dX4_sung_1 (by decide) ?_
  refine lv_aload_n hx hb dX4_sung_2 rfl (lv_at hl 0 rfl) ?_
  refine get0 C0 hK hW 0 (al0 h 0 (by decide)) 2 (by decide) wFL_X4_24 rfl rfl dX4_sung_3 ?_
  refine get3 C0 hK hW 0 (al0 h 3 (by decide)) 1 (by decide) wFL_X4_245 rfl rfl dX4_sung_6 ?_
  refine lv_iconst (v := 1) hx hb dX4_sung_9 (by decide) ?_
  refine lv_isub hx hb dX4_sung_10 ?_
  obtain ⟨z1, hz1, hF⟩ := bnd hF
  refine inI (runS C0 hlo hK hZ hW hS (kX4_isIn l lo g h _ a1 0 ((σ.1 3 0 1) - 1)  _ _ hz1) wCO_X4_isIn wML_X4_28 wST_X4_isIn wIN_X4 hdsX4_isIn ⟨Nat.le_of_ble_eq_true rfl, Nat.le_of_ble_eq_true rfl⟩ rfl hl.1 rfl (Nat.le_of_ble_eq_true rfl) dX4_sung_11 ⟨Nat.le_of_ble_eq_true rfl, Nat.le_of_ble_eq_true rfl⟩) hS (fun H locs hW hS => ?_)
  refine lv_if_ne (tgt := 27) hx hb dX4_sung_14 (by decide) (fun c2 => ?_) (fun c2 => ?_)
  · rw [if_neg c2] at hF
    refine lv_iload_n hx hb dX4_sung_27 rfl (lv_at hl 2 rfl) ?_
    refine lv_iconst (v := 0) hx hb dX4_sung_28 (by decide) ?_
    refine lv_iconst (v := 3) hx hb dX4_sung_29 (by decide) ?_
    obtain ⟨z3, hz3, hF⟩ := bnd hF
    refine inI (runS C0 hlo hK hZ hW hS (kX4_isIn l lo g h _ a2 0 3  _ _ hz3) wCO_X4_isIn wML_X4_28 wST_X4_isIn wIN_X4 hdsX4_isIn ⟨Nat.le_of_ble_eq_true rfl, Nat.le_of_ble_eq_true rfl⟩ rfl hl.1 rfl (Nat.le_of_ble_eq_true rfl) dX4_sung_30 ⟨Nat.le_of_ble_eq_true rfl, Nat.le_of_ble_eq_true rfl⟩) hS (fun H locs hW hS => ?_)
    refine lv_if_ne (tgt := 46) hx hb dX4_sung_33 (by decide) (fun c4 => ?_) (fun c4 => ?_)
    · rw [if_neg c4] at hF
      refine lv_aload_n hx hb dX4_sung_46 rfl (lv_at hl 0 rfl) ?_
      refine get0 C0 hK hW 0 (al0 h 0 (by decide)) 2 (by decide) wFL_X4_24 rfl rfl dX4_sung_47 ?_
      refine lv_iload_n hx hb dX4_sung_50 rfl (lv_at hl 1 rfl) ?_
      refine lv_iload_n hx hb dX4_sung_51 rfl (lv_at hl 2 rfl) ?_
      obtain ⟨z5, hz5, hF⟩ := bnd hF
      refine inI (runV C0 hlo hK hZ hW hS (kX2_told l lo g h _ a1 a2  _ _ hz5) wCO_X2_told wML_X4_252 wIM_X2_told wSE_X2_X2_told wIN_X2 hdX2_told ⟨Nat.le_of_ble_eq_true rfl, Nat.le_of_ble_eq_true rfl⟩ (recvK hK hW (al0 h 3 (by decide)) (ct3 0) rfl) rfl hl.1 rfl (Nat.le_of_ble_eq_true rfl) dX4_sung_52 ⟨Nat.le_of_ble_eq_true rfl, Nat.le_of_ble_eq_true rfl⟩) hS (fun H locs hW hS => ?_)
      cases hF
      exact retI C0 hr hlk hW hS dX4_sung_55
    · rw [if_pos c4] at hF
      cases hF
  · rw [if_pos c2] at hF
    cases hF
theorem hdX4_chord : yX4_chord.cls = RX4 ∧ yX4_chord.cls ≠ "java/lang/invoke/MethodHandle" ∧ yX4_chord.cls ≠ "java/lang/invoke/VarHandle" ∧ (parseMethodDescriptor yX4_chord.desc).map (fun d => d.parameters.length) = some 1 := by decide +kernel
def LX4_chord_22 (ns nb : Nat) (v1 : Int32) : Nat → Int64 → Int64 → Int32 → Sg → Option (Int64 × Int64 × Sg)
  | 0, _, _, _, _ => none
  | n + 1, v2, v4, v6, σ => if (σ.1 3 0 1) ≤ v6 then (some (v2, v4, σ)) else ((FX2_told ns nb σ v6 0).bind fun z3 => if z3.1 = v1 then ((FX2_told ns nb z3.2 v6 3).bind fun z5 => if 64 ≤ z5.1 then (LX4_chord_22 ns nb v1 n v2 (v4 ||| ((1 : Int64) <<< ((z5.1 - 64).toInt64 &&& 63))) (v6 + 1) z5.2) else (LX4_chord_22 ns nb v1 n (v2 ||| ((1 : Int64) <<< (z5.1.toInt64 &&& 63))) v4 (v6 + 1) z5.2)) else (LX4_chord_22 ns nb v1 n v2 v4 (v6 + 1) z3.2))
def FX4_chord (ns nb : Nat) (σ : Sg) (a1 : Int32) : Option ((Nat ⊕ Int32) × Sg) :=
  if 0 ≤ a1 then ((LX4_chord_22 ns nb a1 4100 0 0 0 σ).bind fun z7 => (FJ13_bitCount_95d88 ns nb z7.2.2 z7.1).bind fun z8 => (FJ13_bitCount_95d88 ns nb z8.2 z7.2.1).bind fun z9 => some (.inr (z8.1 + z9.1), z9.2)) else (some (.inl 2, σ))
set_option maxHeartbeats 4000000 in
set_option maxRecDepth 100000 in
theorem lX4_chord_22 {p : Program} {l : Launch} {e : Env} {s : State} {m : MethodId} {args : Array Value} {below : List Frame} {meth : Method} {c : Code} {Q : State → Prop} {lo : Nat} {g : Gx} {h : Sh} (C0 : CallFix p m c cX4_chord 8 s args wB RX4) (hlo : lo ≤ s.heap.size) (hK : KW g s) (hZ : ZW lo s s.heap) (v1 : Int32)  : ∀ (n : Nat) (v2 : Int64) (v4 : Int64) (v6 : Int32) (σ : Sg) (z : (Int64 × Int64 × Sg)) (hF : LX4_chord_22 h.1 h.2.1 v1 n v2 v4 v6 σ = some z) (H : Heap) (locs : List Loc) (ls : Array Slot) (hW : FW g h (Ax lo) σ H) (hS : va_S (Ax lo) s.heap H locs) (hl : lv_has ls 8 [(0, .ref (h.2.2 0 0)), (1, .int v1), (2, .long v2), (4, .long v4), (6, .int v6)]) (kk : ∀ (H : Heap) (locs : List Loc) (ls : Array Slot), FW g h (Ax lo) z.2.2 H → va_S (Ax lo) s.heap H locs → lv_has ls 8 [(2, .long z.1), (4, .long z.2.1)] → W p l e { frames := 2, cells := 0, slots := 0, locals := 43 } s m args below meth c H locs 0 0 Q (F0 m 95 ls [])), W p l e { frames := 2, cells := 0, slots := 0, locals := 43 } s m args below meth c H locs 0 0 Q (F0 m 22 ls []) := by
  have hx := C0.1
  have hb := C0.2.1
  intro n
  induction n with
  | zero =>
    intro v2 v4 v6 σ z hF
    rw [LX4_chord_22] at hF
    cases hF
  | succ n ih =>
    intro v2 v4 v6 σ z hF H locs ls hW hS hl kk
    rw [LX4_chord_22] at hF
    refine lv_iload hx hb dX4_chord_22 (lv_at hl 4 rfl) ?_
    refine lv_aload_n hx hb dX4_chord_24 rfl (lv_at hl 0 rfl) ?_
    refine get0 C0 hK hW 0 (al0 h 0 (by decide)) 2 (by decide) wFL_X4_24 rfl rfl dX4_chord_25 ?_
    refine get3 C0 hK hW 0 (al0 h 3 (by decide)) 1 (by decide) wFL_X4_245 rfl rfl dX4_chord_28 ?_
    refine lv_icmp_ge (tgt := 95) hx hb dX4_chord_31 (by decide) (fun c2 => ?_) (fun c2 => ?_)
    · rw [if_pos c2] at hF
      cases hF
      exact kk _ _ _ hW hS (lv_sub hl [2, 3] rfl)
    · rw [if_neg c2] at hF
      refine lv_aload_n hx hb dX4_chord_34 rfl (lv_at hl 0 rfl) ?_
      refine get0 C0 hK hW 0 (al0 h 0 (by decide)) 2 (by decide) wFL_X4_24 rfl rfl dX4_chord_35 ?_
      refine lv_iload hx hb dX4_chord_38 (lv_at hl 4 rfl) ?_
      refine lv_iconst (v := 0) hx hb dX4_chord_40 (by decide) ?_
      obtain ⟨z3, hz3, hF⟩ := bnd hF
      refine inI (runV C0 hlo hK hZ hW hS (kX2_told l lo g h _ v6 0  _ _ hz3) wCO_X2_told wML_X4_252 wIM_X2_told wSE_X2_X2_told wIN_X2 hdX2_told ⟨Nat.le_of_ble_eq_true rfl, Nat.le_of_ble_eq_true rfl⟩ (recvK hK hW (al0 h 3 (by decide)) (ct3 0) rfl) rfl hl.1 rfl (Nat.le_of_ble_eq_true rfl) dX4_chord_41 ⟨Nat.le_of_ble_eq_true rfl, Nat.le_of_ble_eq_true rfl⟩) hS (fun H locs hW hS => ?_)
      refine lv_iload_n hx hb dX4_chord_44 rfl (lv_at hl 1 rfl) ?_
      refine lv_icmp_ne (tgt := 89) hx hb dX4_chord_45 (by decide) (fun c4 => ?_) (fun c4 => ?_)
      · rw [if_neg c4] at hF
        refine lv_iinc (v := v6 + 1) (lv' := [(6, .int (v6 + 1)), (0, .ref (h.2.2 0 0)), (1, .int v1), (2, .long v2), (4, .long v4)]) hx hb dX4_chord_89 hl (k := 4) rfl rfl (by decide) rfl (fun ls hl => ?_)
        refine lv_goto (tgt := 22) hx hb dX4_chord_92 (by decide) ?_
        exact ih v2 v4 (v6 + 1) z3.2 z hF _ _ _ hW hS (lv_sub hl [1, 2, 3, 4, 0] rfl) kk
      · rw [if_pos c4] at hF
        refine lv_aload_n hx hb dX4_chord_48 rfl (lv_at hl 0 rfl) ?_
        refine get0 C0 hK hW 0 (al0 h 0 (by decide)) 2 (by decide) wFL_X4_24 rfl rfl dX4_chord_49 ?_
        refine lv_iload hx hb dX4_chord_52 (lv_at hl 4 rfl) ?_
        refine lv_iconst (v := 3) hx hb dX4_chord_54 (by decide) ?_
        obtain ⟨z5, hz5, hF⟩ := bnd hF
        refine inI (runV C0 hlo hK hZ hW hS (kX2_told l lo g h _ v6 3  _ _ hz5) wCO_X2_told wML_X4_252 wIM_X2_told wSE_X2_X2_told wIN_X2 hdX2_told ⟨Nat.le_of_ble_eq_true rfl, Nat.le_of_ble_eq_true rfl⟩ (recvK hK hW (al0 h 3 (by decide)) (ct3 0) rfl) rfl hl.1 rfl (Nat.le_of_ble_eq_true rfl) dX4_chord_55 ⟨Nat.le_of_ble_eq_true rfl, Nat.le_of_ble_eq_true rfl⟩) hS (fun H locs hW hS => ?_)
        refine lv_istore (lv' := [(7, .int z5.1), (0, .ref (h.2.2 0 0)), (1, .int v1), (2, .long v2), (4, .long v4), (6, .int v6)]) hx hb dX4_chord_58 hl (by decide) rfl (fun ls hl => ?_)
        refine lv_iload hx hb dX4_chord_60 (lv_at hl 0 rfl) ?_
        refine lv_bipush (v := 64) hx hb dX4_chord_62 (by decide) ?_
        refine lv_icmp_ge (tgt := 77) hx hb dX4_chord_64 (by decide) (fun c6 => ?_) (fun c6 => ?_)
        · rw [if_pos c6] at hF
          refine lv_lload hx hb dX4_chord_77 (lv_at hl 4 rfl) ?_
          refine lv_lconst (v := 1) hx hb dX4_chord_79 (by decide) ?_
          refine lv_iload hx hb dX4_chord_80 (lv_at hl 0 rfl) ?_
          refine lv_bipush (v := 64) hx hb dX4_chord_82 (by decide) ?_
          refine lv_isub hx hb dX4_chord_84 ?_
          refine lv_lshl hx hb dX4_chord_85 rfl ?_
          refine lv_lor hx hb dX4_chord_86 ?_
          refine lv_lstore (lv' := [(4, .long (v4 ||| ((1 : Int64) <<< ((z5.1 - 64).toInt64 &&& 63)))), (7, .int z5.1), (0, .ref (h.2.2 0 0)), (1, .int v1), (2, .long v2), (6, .int v6)]) hx hb dX4_chord_87 hl (by decide) rfl (fun ls hl => ?_)
          refine lv_iinc (v := v6 + 1) (lv' := [(6, .int (v6 + 1)), (4, .long (v4 ||| ((1 : Int64) <<< ((z5.1 - 64).toInt64 &&& 63)))), (7, .int z5.1), (0, .ref (h.2.2 0 0)), (1, .int v1), (2, .long v2)]) hx hb dX4_chord_89 hl (k := 5) rfl rfl (by decide) rfl (fun ls hl => ?_)
          refine lv_goto (tgt := 22) hx hb dX4_chord_92 (by decide) ?_
          exact ih v2 (v4 ||| ((1 : Int64) <<< ((z5.1 - 64).toInt64 &&& 63))) (v6 + 1) z5.2 z hF _ _ _ hW hS (lv_sub hl [3, 4, 5, 1, 0] rfl) kk
        · rw [if_neg c6] at hF
          refine lv_lload_n hx hb dX4_chord_67 rfl (lv_at hl 3 rfl) ?_
          refine lv_lconst (v := 1) hx hb dX4_chord_68 (by decide) ?_
          refine lv_iload hx hb dX4_chord_69 (lv_at hl 0 rfl) ?_
          refine lv_lshl hx hb dX4_chord_71 rfl ?_
          refine lv_lor hx hb dX4_chord_72 ?_
          refine lv_lstore_n (lv' := [(2, .long (v2 ||| ((1 : Int64) <<< (z5.1.toInt64 &&& 63)))), (7, .int z5.1), (0, .ref (h.2.2 0 0)), (1, .int v1), (4, .long v4), (6, .int v6)]) hx hb dX4_chord_73 rfl hl (by decide) rfl (fun ls hl => ?_)
          refine lv_goto (tgt := 89) hx hb dX4_chord_74 (by decide) ?_
          refine lv_iinc (v := v6 + 1) (lv' := [(6, .int (v6 + 1)), (2, .long (v2 ||| ((1 : Int64) <<< (z5.1.toInt64 &&& 63)))), (7, .int z5.1), (0, .ref (h.2.2 0 0)), (1, .int v1), (4, .long v4)]) hx hb dX4_chord_89 hl (k := 5) rfl rfl (by decide) rfl (fun ls hl => ?_)
          refine lv_goto (tgt := 22) hx hb dX4_chord_92 (by decide) ?_
          exact ih (v2 ||| ((1 : Int64) <<< (z5.1.toInt64 &&& 63))) v4 (v6 + 1) z5.2 z hF _ _ _ hW hS (lv_sub hl [3, 4, 1, 5, 0] rfl) kk
set_option maxHeartbeats 4000000 in
set_option maxRecDepth 100000 in
theorem nX4_chord (l : Launch) (lo : Nat) (g : Gx) (h : Sh) (σ : Sg) (a1 : Int32)  (r : Int32) (σ1 : Sg) (hF : FX4_chord h.1 h.2.1 σ a1 = some (.inr r, σ1)) : MI l yX4_chord (ws_ yX4_chord cX4_chord 8 (some .int)) 2 43 0 0 lo g h [.ref (h.2.2 0 0), .int a1] σ r σ1 := by
  refine ofB (own := RX4) (by decide +kernel) rfl (fun p e s m below meth c C0 hr hlk hlo hK hZ hW hS ls hl => ?_) (Nat.le_of_ble_eq_true rfl)
  have hx := C0.1
  have hb := C0.2.1
  have hl : lv_has ls 8 [(0, .ref (h.2.2 0 0)), (1, .int a1)] := hl
  unfold FX4_chord at hF
  refine lv_iload_n hx hb dX4_chord_0 rfl (lv_at hl 1 rfl) ?_
  refine lv_if_ge (tgt := 14) hx hb dX4_chord_1 (by decide) (fun c1 => ?_) (fun c1 => ?_)
  · rw [if_pos c1] at hF
    refine lv_lconst (v := 0) hx hb dX4_chord_14 (by decide) ?_
    refine lv_lstore_n (lv' := [(2, .long 0), (0, .ref (h.2.2 0 0)), (1, .int a1)]) hx hb dX4_chord_15 rfl hl (by decide) rfl (fun ls hl => ?_)
    refine lv_lconst (v := 0) hx hb dX4_chord_16 (by decide) ?_
    refine lv_lstore (lv' := [(4, .long 0), (2, .long 0), (0, .ref (h.2.2 0 0)), (1, .int a1)]) hx hb dX4_chord_17 hl (by decide) rfl (fun ls hl => ?_)
    refine lv_iconst (v := 0) hx hb dX4_chord_19 (by decide) ?_
    refine lv_istore (lv' := [(6, .int 0), (4, .long 0), (2, .long 0), (0, .ref (h.2.2 0 0)), (1, .int a1)]) hx hb dX4_chord_20 hl (by decide) rfl (fun ls hl => ?_)
    obtain ⟨z7, hz7, hF⟩ := bnd hF
    refine lX4_chord_22 C0 hlo hK hZ a1  _ 0 0 0 _ z7 hz7 _ _ _ hW hS (lv_sub hl [3, 4, 2, 1, 0] rfl) (fun H locs ls hW hS hl => ?_)
    refine lv_lload_n hx hb dX4_chord_95 rfl (lv_at hl 0 rfl) ?_
    obtain ⟨z8, hz8, hF⟩ := bnd hF
    refine inI (runS C0 hlo hK hZ hW hS (kJ13_bitCount_95d88 l lo g h _ z7.1  _ _ hz8) wCO_J13_bitCount_95d88 wML_X4_257 wST_J13_bitCount_95d88 wIN_J13 hdsJ13_bitCount_95d88 ⟨Nat.le_of_ble_eq_true rfl, Nat.le_of_ble_eq_true rfl⟩ rfl hl.1 rfl (Nat.le_of_ble_eq_true rfl) dX4_chord_96 ⟨Nat.le_of_ble_eq_true rfl, Nat.le_of_ble_eq_true rfl⟩) hS (fun H locs hW hS => ?_)
    refine lv_lload hx hb dX4_chord_99 (lv_at hl 1 rfl) ?_
    obtain ⟨z9, hz9, hF⟩ := bnd hF
    refine inI (runS C0 hlo hK hZ hW hS (kJ13_bitCount_95d88 l lo g h _ z7.2.1  _ _ hz9) wCO_J13_bitCount_95d88 wML_X4_257 wST_J13_bitCount_95d88 wIN_J13 hdsJ13_bitCount_95d88 ⟨Nat.le_of_ble_eq_true rfl, Nat.le_of_ble_eq_true rfl⟩ rfl hl.1 rfl (Nat.le_of_ble_eq_true rfl) dX4_chord_101 ⟨Nat.le_of_ble_eq_true rfl, Nat.le_of_ble_eq_true rfl⟩) hS (fun H locs hW hS => ?_)
    refine lv_iadd hx hb dX4_chord_104 ?_
    cases hF
    exact retI C0 hr hlk hW hS dX4_chord_105
  · rw [if_neg c1] at hF
    cases hF
theorem hdX4_longest : yX4_longest.cls = RX4 ∧ yX4_longest.cls ≠ "java/lang/invoke/MethodHandle" ∧ yX4_longest.cls ≠ "java/lang/invoke/VarHandle" ∧ (parseMethodDescriptor yX4_longest.desc).map (fun d => d.parameters.length) = some 0 := by decide +kernel
def LX4_longest_9 (ns nb : Nat) : Nat → Int32 → Int32 → Int32 → Int32 → Sg → Option (Int32 × Sg)
  | 0, _, _, _, _, _ => none
  | n + 1, v1, v2, v3, v4, σ => if (σ.1 3 0 1) ≤ v4 then (some (v1, σ)) else ((FX2_told ns nb σ v4 1).bind fun z2 => if z2.1 = v3 then (LX4_longest_9 ns nb  n (mxI v1 (v2 + 1)) (v2 + 1) z2.1 (v4 + 1) z2.2) else (LX4_longest_9 ns nb  n (mxI v1 1) 1 z2.1 (v4 + 1) z2.2))
def FX4_longest (ns nb : Nat) (σ : Sg)  : Option (Int32 × Sg) :=
  (LX4_longest_9 ns nb  4100 0 0 (-1) 0 σ).bind fun z4 => some (z4.1, z4.2)
set_option maxHeartbeats 4000000 in
set_option maxRecDepth 100000 in
theorem lX4_longest_9 {p : Program} {l : Launch} {e : Env} {s : State} {m : MethodId} {args : Array Value} {below : List Frame} {meth : Method} {c : Code} {Q : State → Prop} {lo : Nat} {g : Gx} {h : Sh} (C0 : CallFix p m c cX4_longest 6 s args wB RX4) (hlo : lo ≤ s.heap.size) (hK : KW g s) (hZ : ZW lo s s.heap)   : ∀ (n : Nat) (v1 : Int32) (v2 : Int32) (v3 : Int32) (v4 : Int32) (σ : Sg) (z : (Int32 × Sg)) (hF : LX4_longest_9 h.1 h.2.1  n v1 v2 v3 v4 σ = some z) (H : Heap) (locs : List Loc) (ls : Array Slot) (hW : FW g h (Ax lo) σ H) (hS : va_S (Ax lo) s.heap H locs) (hl : lv_has ls 6 [(0, .ref (h.2.2 0 0)), (1, .int v1), (2, .int v2), (3, .int v3), (4, .int v4)]) (kk : ∀ (H : Heap) (locs : List Loc) (ls : Array Slot), FW g h (Ax lo) z.2 H → va_S (Ax lo) s.heap H locs → lv_has ls 6 [(1, .int z.1)] → W p l e { frames := 2, cells := 0, slots := 0, locals := 43 } s m args below meth c H locs 0 0 Q (F0 m 62 ls [])), W p l e { frames := 2, cells := 0, slots := 0, locals := 43 } s m args below meth c H locs 0 0 Q (F0 m 9 ls []) := by
  have hx := C0.1
  have hb := C0.2.1
  intro n
  induction n with
  | zero =>
    intro v1 v2 v3 v4 σ z hF
    rw [LX4_longest_9] at hF
    cases hF
  | succ n ih =>
    intro v1 v2 v3 v4 σ z hF H locs ls hW hS hl kk
    rw [LX4_longest_9] at hF
    refine lv_iload hx hb dX4_longest_9 (lv_at hl 4 rfl) ?_
    refine lv_aload_n hx hb dX4_longest_11 rfl (lv_at hl 0 rfl) ?_
    refine get0 C0 hK hW 0 (al0 h 0 (by decide)) 2 (by decide) wFL_X4_24 rfl rfl dX4_longest_12 ?_
    refine get3 C0 hK hW 0 (al0 h 3 (by decide)) 1 (by decide) wFL_X4_245 rfl rfl dX4_longest_15 ?_
    refine lv_icmp_ge (tgt := 62) hx hb dX4_longest_18 (by decide) (fun c1 => ?_) (fun c1 => ?_)
    · rw [if_pos c1] at hF
      cases hF
      exact kk _ _ _ hW hS (lv_sub hl [1] rfl)
    · rw [if_neg c1] at hF
      refine lv_aload_n hx hb dX4_longest_21 rfl (lv_at hl 0 rfl) ?_
      refine get0 C0 hK hW 0 (al0 h 0 (by decide)) 2 (by decide) wFL_X4_24 rfl rfl dX4_longest_22 ?_
      refine lv_iload hx hb dX4_longest_25 (lv_at hl 4 rfl) ?_
      refine lv_iconst (v := 1) hx hb dX4_longest_27 (by decide) ?_
      obtain ⟨z2, hz2, hF⟩ := bnd hF
      refine inI (runV C0 hlo hK hZ hW hS (kX2_told l lo g h _ v4 1  _ _ hz2) wCO_X2_told wML_X4_252 wIM_X2_told wSE_X2_X2_told wIN_X2 hdX2_told ⟨Nat.le_of_ble_eq_true rfl, Nat.le_of_ble_eq_true rfl⟩ (recvK hK hW (al0 h 3 (by decide)) (ct3 0) rfl) rfl hl.1 rfl (Nat.le_of_ble_eq_true rfl) dX4_longest_28 ⟨Nat.le_of_ble_eq_true rfl, Nat.le_of_ble_eq_true rfl⟩) hS (fun H locs hW hS => ?_)
      refine lv_istore (lv' := [(5, .int z2.1), (0, .ref (h.2.2 0 0)), (1, .int v1), (2, .int v2), (3, .int v3), (4, .int v4)]) hx hb dX4_longest_31 hl (by decide) rfl (fun ls hl => ?_)
      refine lv_iload hx hb dX4_longest_33 (lv_at hl 0 rfl) ?_
      refine lv_iload_n hx hb dX4_longest_35 rfl (lv_at hl 4 rfl) ?_
      refine lv_icmp_ne (tgt := 45) hx hb dX4_longest_36 (by decide) (fun c3 => ?_) (fun c3 => ?_)
      · rw [if_neg c3] at hF
        refine lv_iconst (v := 1) hx hb dX4_longest_45 (by decide) ?_
        refine lv_istore_n (lv' := [(2, .int 1), (5, .int z2.1), (0, .ref (h.2.2 0 0)), (1, .int v1), (3, .int v3), (4, .int v4)]) hx hb dX4_longest_46 rfl hl (by decide) rfl (fun ls hl => ?_)
        refine lv_iload hx hb dX4_longest_47 (lv_at hl 1 rfl) ?_
        refine lv_istore_n (lv' := [(3, .int z2.1), (2, .int 1), (5, .int z2.1), (0, .ref (h.2.2 0 0)), (1, .int v1), (4, .int v4)]) hx hb dX4_longest_49 rfl hl (by decide) rfl (fun ls hl => ?_)
        refine lv_iload_n hx hb dX4_longest_50 rfl (lv_at hl 4 rfl) ?_
        refine lv_iload_n hx hb dX4_longest_51 rfl (lv_at hl 1 rfl) ?_
        refine r_max C0 hl.1 wML_X4_262 (Nat.le_of_ble_eq_true rfl) (Nat.le_of_ble_eq_true rfl) (Nat.le_of_ble_eq_true rfl) (Nat.le_of_ble_eq_true rfl) dX4_longest_52 ?_
        refine lv_istore_n (lv' := [(1, .int (mxI v1 1)), (3, .int z2.1), (2, .int 1), (5, .int z2.1), (0, .ref (h.2.2 0 0)), (4, .int v4)]) hx hb dX4_longest_55 rfl hl (by decide) rfl (fun ls hl => ?_)
        refine lv_iinc (v := v4 + 1) (lv' := [(4, .int (v4 + 1)), (1, .int (mxI v1 1)), (3, .int z2.1), (2, .int 1), (5, .int z2.1), (0, .ref (h.2.2 0 0))]) hx hb dX4_longest_56 hl (k := 5) rfl rfl (by decide) rfl (fun ls hl => ?_)
        refine lv_goto (tgt := 9) hx hb dX4_longest_59 (by decide) ?_
        exact ih (mxI v1 1) 1 z2.1 (v4 + 1) z2.2 z hF _ _ _ hW hS (lv_sub hl [5, 1, 3, 2, 0] rfl) kk
      · rw [if_pos c3] at hF
        refine lv_iload_n hx hb dX4_longest_39 rfl (lv_at hl 3 rfl) ?_
        refine lv_iconst (v := 1) hx hb dX4_longest_40 (by decide) ?_
        refine lv_iadd hx hb dX4_longest_41 ?_
        refine lv_goto (tgt := 46) hx hb dX4_longest_42 (by decide) ?_
        refine lv_istore_n (lv' := [(2, .int (v2 + 1)), (5, .int z2.1), (0, .ref (h.2.2 0 0)), (1, .int v1), (3, .int v3), (4, .int v4)]) hx hb dX4_longest_46 rfl hl (by decide) rfl (fun ls hl => ?_)
        refine lv_iload hx hb dX4_longest_47 (lv_at hl 1 rfl) ?_
        refine lv_istore_n (lv' := [(3, .int z2.1), (2, .int (v2 + 1)), (5, .int z2.1), (0, .ref (h.2.2 0 0)), (1, .int v1), (4, .int v4)]) hx hb dX4_longest_49 rfl hl (by decide) rfl (fun ls hl => ?_)
        refine lv_iload_n hx hb dX4_longest_50 rfl (lv_at hl 4 rfl) ?_
        refine lv_iload_n hx hb dX4_longest_51 rfl (lv_at hl 1 rfl) ?_
        refine r_max C0 hl.1 wML_X4_262 (Nat.le_of_ble_eq_true rfl) (Nat.le_of_ble_eq_true rfl) (Nat.le_of_ble_eq_true rfl) (Nat.le_of_ble_eq_true rfl) dX4_longest_52 ?_
        refine lv_istore_n (lv' := [(1, .int (mxI v1 (v2 + 1))), (3, .int z2.1), (2, .int (v2 + 1)), (5, .int z2.1), (0, .ref (h.2.2 0 0)), (4, .int v4)]) hx hb dX4_longest_55 rfl hl (by decide) rfl (fun ls hl => ?_)
        refine lv_iinc (v := v4 + 1) (lv' := [(4, .int (v4 + 1)), (1, .int (mxI v1 (v2 + 1))), (3, .int z2.1), (2, .int (v2 + 1)), (5, .int z2.1), (0, .ref (h.2.2 0 0))]) hx hb dX4_longest_56 hl (k := 5) rfl rfl (by decide) rfl (fun ls hl => ?_)
        refine lv_goto (tgt := 9) hx hb dX4_longest_59 (by decide) ?_
        exact ih (mxI v1 (v2 + 1)) (v2 + 1) z2.1 (v4 + 1) z2.2 z hF _ _ _ hW hS (lv_sub hl [5, 1, 3, 2, 0] rfl) kk
set_option maxHeartbeats 4000000 in
set_option maxRecDepth 100000 in
theorem kX4_longest (l : Launch) (lo : Nat) (g : Gx) (h : Sh) (σ : Sg)   (r : Int32) (σ1 : Sg) (hF : FX4_longest h.1 h.2.1 σ  = some (r, σ1)) : MI l yX4_longest (ws_ yX4_longest cX4_longest 6 (some .int)) 2 43 0 0 lo g h [.ref (h.2.2 0 0)] σ r σ1 := by
  refine ofB (own := RX4) (by decide +kernel) rfl (fun p e s m below meth c C0 hr hlk hlo hK hZ hW hS ls hl => ?_) (Nat.le_of_ble_eq_true rfl)
  have hx := C0.1
  have hb := C0.2.1
  have hl : lv_has ls 6 [(0, .ref (h.2.2 0 0))] := hl
  unfold FX4_longest at hF
  refine lv_iconst (v := 0) hx hb dX4_longest_0 (by decide) ?_
  refine lv_istore_n (lv' := [(1, .int 0), (0, .ref (h.2.2 0 0))]) hx hb dX4_longest_1 rfl hl (by decide) rfl (fun ls hl => ?_)
  refine lv_iconst (v := 0) hx hb dX4_longest_2 (by decide) ?_
  refine lv_istore_n (lv' := [(2, .int 0), (1, .int 0), (0, .ref (h.2.2 0 0))]) hx hb dX4_longest_3 rfl hl (by decide) rfl (fun ls hl => ?_)
  refine lv_iconst (v := (-1)) hx hb dX4_longest_4 (by decide) ?_
  refine lv_istore_n (lv' := [(3, .int (-1)), (2, .int 0), (1, .int 0), (0, .ref (h.2.2 0 0))]) hx hb dX4_longest_5 rfl hl (by decide) rfl (fun ls hl => ?_)
  refine lv_iconst (v := 0) hx hb dX4_longest_6 (by decide) ?_
  refine lv_istore (lv' := [(4, .int 0), (3, .int (-1)), (2, .int 0), (1, .int 0), (0, .ref (h.2.2 0 0))]) hx hb dX4_longest_7 hl (by decide) rfl (fun ls hl => ?_)
  obtain ⟨z4, hz4, hF⟩ := bnd hF
  refine lX4_longest_9 C0 hlo hK hZ   _ 0 0 (-1) 0 _ z4 hz4 _ _ _ hW hS (lv_sub hl [4, 3, 2, 1, 0] rfl) (fun H locs ls hW hS hl => ?_)
  refine lv_iload_n hx hb dX4_longest_62 rfl (lv_at hl 0 rfl) ?_
  cases hF
  exact retI C0 hr hlk hW hS dX4_longest_63
theorem hdX4_emptySongs : yX4_emptySongs.cls = RX4 ∧ yX4_emptySongs.cls ≠ "java/lang/invoke/MethodHandle" ∧ yX4_emptySongs.cls ≠ "java/lang/invoke/VarHandle" ∧ (parseMethodDescriptor yX4_emptySongs.desc).map (fun d => d.parameters.length) = some 0 := by decide +kernel
def FX4_emptySongs (ns nb : Nat) (σ : Sg)  : Option (Int32 × Sg) :=
  (FX2_clearAll ns nb σ ).bind fun z1 => some (σ.1 3 0 1, z1)
set_option maxHeartbeats 4000000 in
set_option maxRecDepth 100000 in
theorem kX4_emptySongs (l : Launch) (lo : Nat) (g : Gx) (h : Sh) (σ : Sg)   (r : Int32) (σ1 : Sg) (hF : FX4_emptySongs h.1 h.2.1 σ  = some (r, σ1)) : MI l yX4_emptySongs (ws_ yX4_emptySongs cX4_emptySongs 2 (some .int)) 1 20 0 0 lo g h [.ref (h.2.2 0 0)] σ r σ1 := by
  refine ofB (own := RX4) (by decide +kernel) rfl (fun p e s m below meth c C0 hr hlk hlo hK hZ hW hS ls hl => ?_) (Nat.le_of_ble_eq_true rfl)
  have hx := C0.1
  have hb := C0.2.1
  have hl : lv_has ls 2 [(0, .ref (h.2.2 0 0))] := hl
  unfold FX4_emptySongs at hF
  refine lv_aload_n hx hb dX4_emptySongs_0 rfl (lv_at hl 0 rfl) ?_
  refine get0 C0 hK hW 0 (al0 h 0 (by decide)) 2 (by decide) wFL_X4_24 rfl rfl dX4_emptySongs_1 ?_
  refine get3 C0 hK hW 0 (al0 h 3 (by decide)) 1 (by decide) wFL_X4_245 rfl rfl dX4_emptySongs_4 ?_
  refine lv_istore_n (lv' := [(1, .int (σ.1 3 0 1)), (0, .ref (h.2.2 0 0))]) hx hb dX4_emptySongs_7 rfl hl (by decide) rfl (fun ls hl => ?_)
  refine lv_aload_n hx hb dX4_emptySongs_8 rfl (lv_at hl 1 rfl) ?_
  refine get0 C0 hK hW 0 (al0 h 0 (by decide)) 2 (by decide) wFL_X4_24 rfl rfl dX4_emptySongs_9 ?_
  obtain ⟨z1, hz1, hF⟩ := bnd hF
  refine inV (runV C0 hlo hK hZ hW hS (kX2_clearAll l lo g h _   _ hz1) wCO_X2_clearAll wML_X4_265 wIM_X2_clearAll wSE_X2_X2_clearAll wIN_X2 hdX2_clearAll ⟨Nat.le_of_ble_eq_true rfl, Nat.le_of_ble_eq_true rfl⟩ (recvK hK hW (al0 h 3 (by decide)) (ct3 0) rfl) rfl hl.1 rfl (Nat.le_of_ble_eq_true rfl) dX4_emptySongs_12 ⟨Nat.le_of_ble_eq_true rfl, Nat.le_of_ble_eq_true rfl⟩) hS (fun H locs hW hS => ?_)
  refine lv_iload_n hx hb dX4_emptySongs_15 rfl (lv_at hl 0 rfl) ?_
  cases hF
  exact retI C0 hr hlk hW hS dX4_emptySongs_16
theorem hdsL_below : yL_below.cls ≠ "java/lang/invoke/MethodHandle" ∧ yL_below.cls ≠ "java/lang/invoke/VarHandle" ∧ (parseMethodDescriptor yL_below.desc).map (fun d => d.parameters.length) = some 2 := by decide +kernel
def FL_below (ns nb : Nat) (σ : Sg) (a0 : Int32) (a1 : Int32) : Option (Int32 × Sg) :=
  if a1 = 0 then none else (some ((a0 &&& 2147483647) - (a0 &&& 2147483647) / a1 * a1, σ))
set_option maxHeartbeats 4000000 in
set_option maxRecDepth 100000 in
theorem kL_below (l : Launch) (lo : Nat) (g : Gx) (h : Sh) (σ : Sg) (a0 : Int32) (a1 : Int32)  (r : Int32) (σ1 : Sg) (hF : FL_below h.1 h.2.1 σ a0 a1 = some (r, σ1)) : MI l yL_below (ws_ yL_below cL_below 2 (some .int)) 0 0 0 0 lo g h [.int a0, .int a1] σ r σ1 := by
  refine ofB (own := RL) (by decide +kernel) rfl (fun p e s m below meth c C0 hr hlk hlo hK hZ hW hS ls hl => ?_) (Nat.le_of_ble_eq_true rfl)
  have hx := C0.1
  have hb := C0.2.1
  have hl : lv_has ls 2 [(0, .int a0), (1, .int a1)] := hl
  unfold FL_below at hF
  refine lv_iload_n hx hb dL_below_0 rfl (lv_at hl 0 rfl) ?_
  refine lv_ldc hx hb C0.2.2.2.1 (C0.2.2.2.2 _ wconstant_L_7) dL_below_1 ?_
  refine lv_iand hx hb dL_below_3 ?_
  refine lv_iload_n hx hb dL_below_4 rfl (lv_at hl 1 rfl) ?_
  obtain ⟨hg, hF⟩ := grd hF
  refine lv_irem hx hb dL_below_5 hg ?_
  cases hF
  exact retI C0 hr hlk hW hS dL_below_6
end
section
/-! MAKING: lists of new cells beside the pool -/
theorem va_D_left {A : Nat → Prop} {w1 w2 : va_W} (h : va_D A (w1 ++ w2)) : va_D A w1 := by
  refine ⟨fun i j p q hi hj hpq => ?_, fun k q hk => ?_⟩
  · have h1 := (List.getElem?_eq_some_iff.mp hi).1
    have h2 := (List.getElem?_eq_some_iff.mp hj).1
    exact h.1 i j p q (by rw [List.getElem?_append_left h1]; exact hi) (by rw [List.getElem?_append_left h2]; exact hj) hpq
  · have h1 := (List.getElem?_eq_some_iff.mp hk).1
    exact h.2 k q (by rw [List.getElem?_append_left h1]; exact hk)
theorem va_P_left {D : va_G} {cl : List vw_C} {H : Heap} {w1 w2 : va_W} (h : va_P D cl (w1 ++ w2) H) : va_P D cl w1 H := fun k q hk =>
  h k q (by rw [List.getElem?_append_left (List.getElem?_eq_some_iff.mp hk).1]; exact hk)
theorem va_P_right {D : va_G} {cl : List vw_C} {H : Heap} {w1 w2 : va_W} (h : va_P D cl (w1 ++ w2) H) : va_P D cl w2 H := fun k q hk =>
  h (w1.length + k) q (by rw [List.getElem?_append_right (by omega), Nat.add_sub_cancel_left]; exact hk)
/-- new cells become part of the pool -/
theorem pool_app {A : Nat → Prop} : ∀ (ws : va_W) (L : List Nat) (f : Nat → va_E), va_D A (va_pl L f ++ ws) → ∃ (L' : List Nat) (f' : Nat → va_E), va_pl L' f' = va_pl L f ++ ws ∧ (∀ a ∈ L, a ∈ L' ∧ f' a = f a) ∧ ∀ x ∈ ws, x.1 ∈ L' ∧ f' x.1 = x.2
  | [], L, f, _ => ⟨L, f, (List.append_nil _).symm, fun a ha => ⟨ha, rfl⟩, fun x hx => absurd hx List.not_mem_nil⟩
  | (a, e) :: ws, L, f, hD => by
    have hD1 : va_D A (([] ++ va_pl L f) ++ [(a, e)]) := by
      have : va_pl L f ++ (a, e) :: ws = (va_pl L f ++ [(a, e)]) ++ ws := by simp
      rw [this] at hD
      exact va_D_left hD
    have hq : a ∉ L := va_pl_fresh2 hD1
    have e1 : va_pl L f ++ [(a, e)] = va_pl (L ++ [a]) (va_up f a e) := va_pl_push hq
    have e2 : va_pl L f ++ (a, e) :: ws = va_pl (L ++ [a]) (va_up f a e) ++ ws := by rw [← e1]; simp
    rw [e2] at hD
    obtain ⟨L', f', h1, h2, h3⟩ := pool_app ws (L ++ [a]) (va_up f a e) hD
    refine ⟨L', f', h1.trans e2.symm, fun b hb => ?_, fun x hx => ?_⟩
    · obtain ⟨g1, g2⟩ := h2 b (List.mem_append_left _ hb)
      exact ⟨g1, g2.trans (va_up_ne _ _ (fun z => hq (z ▸ hb)))⟩
    · rcases List.mem_cons.mp hx with rfl | hx
      · obtain ⟨g1, g2⟩ := h2 a (List.mem_append_right _ (List.mem_singleton.mpr rfl))
        exact ⟨g1, g2.trans (va_up_self _ _ _)⟩
      · exact h3 x hx
/-- the pool and a list beside it -/
def FX (g : Gx) (h : Sh) (A : Nat → Prop) (cf : Nat → Nat → va_E) (ws : va_W) (H : Heap) : Prop :=
  ∃ (L : List Nat) (f : Nat → va_E), va_P g.1 vwCl (va_pl L f ++ ws) H ∧ va_D A (va_pl L f ++ ws) ∧ (∀ k i, al h k i → h.2.2 k i ∈ L ∧ f (h.2.2 k i) = cf k i) ∧ (∀ k i k' i', al h k i → al h k' i' → h.2.2 k i = h.2.2 k' i' → k = k' ∧ i = i') ∧ XW g.2.2.2.2 h L f
theorem FX.W {g : Gx} {h : Sh} {A : Nat → Prop} {σ : Sg} {ws : va_W} {H : Heap} (hX : FX g h A (ct g h σ) ws H) : FW g h A σ H := by
  obtain ⟨L, f, hP, hD, hR, hJ⟩ := hX
  exact ⟨L, f, va_P_left hP, va_D_left hD, hR, hJ⟩
/-- a new shape: each role is an old one, unchanged, or one of the list -/
theorem FX.add {g : Gx} {h h' : Sh} {A : Nat → Prop} {cf : Nat → Nat → va_E} {σ' : Sg} {ws : va_W} {H : Heap} (hX : FX g h A cf ws H) (nw : Nat → Nat → Option Nat)
    (ho : ∀ k i, al h' k i → nw k i = none → al h k i ∧ h'.2.2 k i = h.2.2 k i ∧ ct g h' σ' k i = cf k i) (hn : ∀ k i j, al h' k i → nw k i = some j → ws[j]? = some (h'.2.2 k i, ct g h' σ' k i)) (hi : ∀ k i k' i' j, nw k i = some j → nw k' i' = some j → al h' k i → al h' k' i' → k = k' ∧ i = i') : FW g h' A σ' H := by
  obtain ⟨L, f, hP, hD, hR, hJ, hXw⟩ := hX
  obtain ⟨L', f', e, h1, h2⟩ := pool_app ws L f hD
  have hin : ∀ k i, al h' k i → h'.2.2 k i ∈ L' ∧ f' (h'.2.2 k i) = ct g h' σ' k i := by
    intro k i ha
    cases hc : nw k i with
    | none =>
      obtain ⟨a1, a2, a3⟩ := ho k i ha hc
      obtain ⟨b1, b2⟩ := hR k i a1
      obtain ⟨c1, c2⟩ := h1 _ b1
      rw [a2, a3]
      exact ⟨c1, c2.trans b2⟩
    | some j =>
      have := h2 _ (List.mem_of_getElem? (hn k i j ha hc))
      exact this
  have apart : ∀ (a j : Nat) (x : Nat × va_E), a ∈ L → ws[j]? = some x → a ≠ x.1 := by
    intro a j x ha hx hax
    obtain ⟨k, hk⟩ := va_pl_get (X := []) (f := f) ha
    have hk : (va_pl L f)[k]? = some (a, f a) := hk
    have hlt := (List.getElem?_eq_some_iff.mp hk).1
    have q1 : (va_pl L f ++ ws)[k]? = some (a, f a) := by rw [List.getElem?_append_left hlt]; exact hk
    have q2 : (va_pl L f ++ ws)[(va_pl L f).length + j]? = some x := by rw [List.getElem?_append_right (by omega), Nat.add_sub_cancel_left]; exact hx
    have := hD.1 _ _ _ _ q1 q2 hax
    omega
  refine ⟨L', f', by rw [e]; exact hP, by rw [e]; exact hD, hin, ?_, fun q e9 hq => ?_⟩
  rotate_left
  · obtain ⟨x1, x2, x3⟩ := hXw q e9 hq
    refine ⟨(h1 q x1).1, (h1 q x1).2.trans x2, fun k i ha => ?_⟩
    cases hc : nw k i with
    | none =>
      obtain ⟨a1, a2, a3⟩ := ho k i ha hc
      rw [a2]
      exact x3 k i a1
    | some j => exact fun z => apart q j _ x1 (hn k i j ha hc) z.symm
  intro k i k' i' ha ha' heq
  cases hc : nw k i with
  | none =>
    obtain ⟨a1, a2, a3⟩ := ho k i ha hc
    cases hc' : nw k' i' with
    | none =>
      obtain ⟨b1, b2, b3⟩ := ho k' i' ha' hc'
      rw [a2, b2] at heq
      exact hJ k i k' i' a1 b1 heq
    | some j =>
      rw [a2] at heq
      exact absurd heq (apart _ j _ (hR k i a1).1 (hn k' i' j ha' hc'))
  | some j =>
    cases hc' : nw k' i' with
    | none =>
      obtain ⟨b1, b2, b3⟩ := ho k' i' ha' hc'
      rw [b2] at heq
      exact absurd heq.symm (apart _ j _ (hR k' i' b1).1 (hn k i j ha hc))
    | some j' =>
      have q1 := hn k i j ha hc
      have q2 := hn k' i' j' ha' hc'
      have r1 : (va_pl L f ++ ws)[(va_pl L f).length + j]? = some (h'.2.2 k i, ct g h' σ' k i) := by rw [List.getElem?_append_right (by omega), Nat.add_sub_cancel_left]; exact q1
      have r2 : (va_pl L f ++ ws)[(va_pl L f).length + j']? = some (h'.2.2 k' i', ct g h' σ' k' i') := by rw [List.getElem?_append_right (by omega), Nat.add_sub_cancel_left]; exact q2
      have := hD.1 _ _ _ _ r1 r2 heq
      have hjj : j = j' := by omega
      subst hjj
      exact hi k i k' i' j hc hc' ha ha'
/-- behind the call of a constructor: the pool is as it was, the list is the constructor's -/
theorem FX.join {g : Gx} {h : Sh} {A : Nat → Prop} {cf : Nat → Nat → va_E} {wc w1 : va_W} {H H1 : Heap} (hX : FX g h A cf wc H) (hk : ∀ q : Nat, q < H.size → ¬ va_A wc H.size q → H1[q]? = H[q]?) (hF : ∀ q, va_A wc H.size q → A q) (hP1 : va_P g.1 vwCl w1 H1) (hD1 : va_D (va_A wc H.size) w1) : FX g h A cf w1 H1 := by
  obtain ⟨L, f, hP, hD, hR, hJ⟩ := hX
  have ap : ∀ (k : Nat) (q : Nat × va_E), (va_pl L f)[k]? = some q → q.1 < H.size ∧ ¬ va_A wc H.size q.1 := by
    intro k q hq
    have hlt := (List.getElem?_eq_some_iff.mp hq).1
    have q1 : (va_pl L f ++ wc)[k]? = some q := by rw [List.getElem?_append_left hlt]; exact hq
    have hl := (hP k q q1).lt
    refine ⟨hl, fun z => ?_⟩
    rcases z with ⟨j, e, hj⟩ | z
    · have q2 : (va_pl L f ++ wc)[(va_pl L f).length + j]? = some (q.1, e) := by rw [List.getElem?_append_right (by omega), Nat.add_sub_cancel_left]; exact hj
      have := hD.1 _ _ _ _ q1 q2 rfl
      omega
    · omega
  refine ⟨L, f, va_P.app ((va_P_left hP).kept (fun k q hq => hk q.1 (ap k q hq).1 (ap k q hq).2)) hP1, va_D.app (va_D_left hD) (hD1.weaken (fun k q _ z => hF q.1 z)) (fun i j p q hp hq hpq => ?_), hR, hJ⟩
  exact (ap i p hp).2 (by rw [hpq]; exact hD1.2 j q hq)
theorem FW.X {g : Gx} {h : Sh} {A : Nat → Prop} {σ : Sg} {H : Heap} (hW : FW g h A σ H) : FX g h A (ct g h σ) [] H := by
  obtain ⟨L, f, hP, hD, hR, hJ⟩ := hW
  exact ⟨L, f, by rw [List.append_nil]; exact hP, by rw [List.append_nil]; exact hD, hR, hJ⟩
section MK
variable {p : Program} {l : Launch} {e : Env} {R : Room} {s : State} {m : MethodId} {args : Array Value} {below : List Frame} {meth : Method} {c : Code} {H : Heap} {locs : List Loc} {cells slots : Nat} {Q : State → Prop}
variable {cc bytes : ByteArray} {pc nL maxL index n lo mc ms fr lw : Nat} {ls : Array Slot} {rest st0 As : List Value} {own C : String} {g : Gx} {h : Sh} {σ σ1 : Sg} {y : MethodName} {ret : Option FieldType} {b : Nat} {Qc : Array Value → State → Outcome → State → Prop} {A : Nat → Prop} {H0 : Heap}
theorem newX (C0 : CallFix p m c cc nL s args wB own) (hK : KW g s) {cf : Nat → Nat → va_E} (hX : FX g h A cf [] H) (hS : va_S A H0 H locs) (hA : ∀ q, H0.size ≤ q → A q) {C : String} {T : u_T} {N ci : Nat} (hin : ∀ w ∈ u_ws C T N, w ∈ wB) {ty : Nat → FieldType} (hty : ∀ k, k < N → parseFieldDescriptor (T k).2.2.1 = some (ty k)) (hcl : Cond.classLink own index C ∈ wB) (hinst : Cond.instantiable C N ∈ wB) (hini : Cond.initialized C ∈ wB) (hc : vwCl[ci]? = some (C, T, N)) {fs : List Value} (hfs : ∀ j, j < N → defaultValue (ty j) = vp_V fs j) (hcells : cells + 1 ≤ R.cells) (hslots : slots + N ≤ R.slots) (hdg : decode cc pc = .ok (.new index, 3))
    (kk : ∀ (q : Nat) (H1 : Heap), FX g h A cf [(q, .inr (ci, fs))] H1 → va_S A H0 H1 locs → W p l e R s m args below meth c H1 locs (cells + 1) (slots + N) Q (F0 m (pc + 3) ls (.ref q :: rest))) : W p l e R s m args below meth c H locs cells slots Q (F0 m pc ls rest) := by
  obtain ⟨L, f, hP, hD, hR, hJ⟩ := hX
  rw [List.append_nil] at hP hD
  exact va_new C0.1 C0.2.1 C0.2.2.2.2 hin ty hty C0.2.2.2.1 (C0.2.2.2.2 _ hcl) (C0.2.2.2.2 _ hinst) (C0.2.2.2.2 _ hini) hK.1 hP hD hS hA hc hfs hcells hslots hdg (fun q H1 hP1 hD1 hS1 => kk q H1 ⟨L, f, hP1, hD1, hR, hJ⟩ hS1)
/-- the head of a constructor: its own cell, and what it makes -/
def WL (sz : Nat) (g : Gx) (ws : va_W) (U : State) : Prop := U.heap.size = sz ∧ va_P g.1 vwCl ws U.heap ∧ va_D (fun _ => True) ws ∧ KW g U
theorem WL.blind {sz : Nat} {g : Gx} {ws : va_W} {args : List Value} : FrameBlind (va_Pc args (WL sz g ws)) := fun _ _ _ _ q => ⟨q.1, q.2.1, q.2.2.1, q.2.2.2.1, q.2.2.2.2.call⟩
theorem ofC {sz : Nat} {ws : va_W} {av : List Value} (hy : plainName y.cls = true) (hyo : y.cls = own)
    (body : ∀ (p : Program) (e : Env) (s : State) (m : MethodId) (below : List Frame) (meth : Method) (c : Code) (A : Nat → Prop), CallFix p m c cc maxL s av.toArray wB own → meth.sig.returnType = ret → meth.locks = false → meth.name = y.name → KW g s → A = va_A ws s.heap.size → (∀ q : Nat, s.heap.size ≤ q → A q) → va_P g.1 vwCl ws s.heap → va_D A ws → va_S A s.heap s.heap [] → s.heap.size = sz → ∀ ls : Array Slot, lv_has ls maxL (lv_args 0 av) →
      W p l e { frames := fr, cells := mc, slots := ms, locals := lw } s m av.toArray below meth c s.heap [] 0 0 (MQ below Qc av.toArray s mc ms (va_A ws sz)) (F0 m 0 ls [])) (hlen : (lg_sl av).length ≤ maxL) :
    Met l y (ws_ y cc maxL ret) { frames := fr, cells := mc, slots := ms, locals := lw } (va_Pc av (WL sz g ws)) Qc mc ms (va_A ws sz) := by
  refine Met.ofW (cc := cc) (maxL := maxL) (ret := ret) hy rfl ?_
  intro p e s m args below meth c s₁ B hml hv
  obtain ⟨rfl, hsz, hP, hD, hK⟩ := hv
  have hts := atoms_spec (ws := ws_ y cc maxL ret) B.pre
  have hown : s.vm.findClass own = some m.cls := hyo ▸ findClass_of_methodNamed B.named
  rw [lg_entry_eq]
  exact body p e s m below meth c _ ⟨B.exec, B.bytes, hml, hown, fun w hw => hts w (List.mem_cons_of_mem _ hw)⟩ B.returns B.notSynchronized (name_of_methodNamed B.named B.method).1 hK rfl (fun q hq => Or.inr hq) hP (hD.self) va_S.rf hsz _ (lv_entry av hlen)
theorem cyI_eq (hK : KW g s) {cA : ClassId} (h1 : va_RA s cA .int) : cA = g.2.1.1 := Option.some.inj (h1.symm.trans (hK.1.2 0 (g.2.1.1, .int) rfl).2)
theorem cyZ_eq (hK : KW g s) {cA : ClassId} (h1 : va_RA s cA .boolean) : cA = g.2.1.2.1 := Option.some.inj (h1.symm.trans (hK.1.2 1 (g.2.1.2.1, .boolean) rfl).2)
theorem cyJ_eq (hK : KW g s) {cA : ClassId} (h1 : va_RA s cA .long) : cA = g.2.1.2.2.1 := Option.some.inj (h1.symm.trans (hK.1.2 2 (g.2.1.2.2.1, .long) rfl).2)
theorem cyS_eq (hK : KW g s) {cA : ClassId} (h1 : va_RA s cA (.object RX3)) : cA = g.2.1.2.2.2.1 := by
  obtain ⟨_, _, _, _, _, a⟩ := h1
  obtain ⟨_, _, _, _, _, b⟩ := (hK.1.2 3 (g.2.1.2.2.2.1, .object RX3) rfl).2
  exact Option.some.inj (a.symm.trans b)
theorem cyB_eq (hK : KW g s) {cA : ClassId} (h1 : va_RA s cA (.object RX0)) : cA = g.2.1.2.2.2.2.1 := by
  obtain ⟨_, _, _, _, _, a⟩ := h1
  obtain ⟨_, _, _, _, _, b⟩ := (hK.1.2 4 (g.2.1.2.2.2.2.1, .object RX0) rfl).2
  exact Option.some.inj (a.symm.trans b)
theorem cyC_eq (hK : KW g s) {cA : ClassId} (h1 : va_RA s cA (.object RX1)) : cA = g.2.1.2.2.2.2.2 := by
  obtain ⟨_, _, _, _, _, a⟩ := h1
  obtain ⟨_, _, _, _, _, b⟩ := (hK.1.2 5 (g.2.1.2.2.2.2.2, .object RX1) rfl).2
  exact Option.some.inj (a.symm.trans b)
end MK
end
section
theorem hdiX3_init : yX3_init.cls ≠ "java/lang/invoke/MethodHandle" ∧ yX3_init.cls ≠ "java/lang/invoke/VarHandle" ∧ (parseMethodDescriptor yX3_init.desc).map (fun d => d.parameters.length) = some 1 := by decide +kernel
set_option maxHeartbeats 8000000 in
set_option maxRecDepth 100000 in
theorem kX3_init (l : Launch) (g : Gx) (h0 sz : Nat) (a1 : Int32) : Met l yX3_init (ws_ yX3_init cX3_init 2 none) { frames := 1, cells := 0, slots := 0, locals := 32 } (va_Pc [.ref h0, .int a1] (WL sz g [(h0, .inr (3, [.int 0, .int 0, .long 0, .int 0, .int 0, .int 0, .long 0, .int 0]))])) (va_Qv (fun (_ : Nat → Nat) => True) (fun u t => va_P g.1 vwCl [(h0, .inr (3, [.int a1, .int 0, .long 0, .int 0, .int 0, .int 0, .long 0, .int 0]))] t.heap ∧ va_D (va_A [(h0, .inr (3, [.int 0, .int 0, .long 0, .int 0, .int 0, .int 0, .long 0, .int 0]))] sz) [(h0, .inr (3, [.int a1, .int 0, .long 0, .int 0, .int 0, .int 0, .long 0, .int 0]))]) (va_A [(h0, .inr (3, [.int 0, .int 0, .long 0, .int 0, .int 0, .int 0, .long 0, .int 0]))] sz)) 0 0 (va_A [(h0, .inr (3, [.int 0, .int 0, .long 0, .int 0, .int 0, .int 0, .long 0, .int 0]))] sz) := by
  refine ofC (own := RX3) (by decide +kernel) rfl (fun p e s m below meth c A C0 hr hlk hin hK hAe hA hP hD hS hsz ls hl => ?_) (Nat.le_of_ble_eq_true rfl)
  have hx := C0.1
  have hb := C0.2.1
  subst hsz
  rw [← hAe]
  have hl : lv_has ls 2 [(0, .ref h0), (1, .int a1)] := hl
  refine lv_aload_n hx hb dX3_init_0 rfl (lv_at hl 0 rfl) ?_
  refine W.objInit hx hb C0.2.2.2.1 (C0.2.2.2.2 _ wML_X3_3) (C0.2.2.2.2 _ wIM_java_lang_Object__init____V) (C0.2.2.2.2 _ wCO_java_lang_Object__init____V) rfl (hl.1.trans C0.2.2.1.symm) rfl dX3_init_1 (Nat.le_of_ble_eq_true rfl) (Nat.le_of_ble_eq_true rfl) ?_
  refine W.eq (g2 := F0 m 4 ls []) rfl ?_
  refine lv_aload_n hx hb dX3_init_4 rfl (lv_at hl 0 rfl) ?_
  refine lv_iload_n hx hb dX3_init_5 rfl (lv_at hl 1 rfl) ?_
  refine va_putF (A := A) (ci := 3) (v := .int a1) (C := RX3) (T := TX3) (N := 8) hx hb C0.2.2.2.2 inX3_B tyX3 tyX3_ok nmX3 C0.2.2.2.1 hK.1 hP hD hS 0 rfl rfl 0 (by decide) (C0.2.2.2.2 _ wFL_X3_9) (fun _ h9 => h9) rfl hin rfl (tyX3_ok 0 (by decide)) rfl rfl (Nat.le_of_ble_eq_true rfl) dX3_init_6 (fun H locs hP hD hS => ?_)
  have hP : va_P g.1 vwCl [(h0, .inr (3, [.int a1, .int 0, .long 0, .int 0, .int 0, .int 0, .long 0, .int 0]))] H := hP
  have hD : va_D A [(h0, .inr (3, [.int a1, .int 0, .long 0, .int 0, .int 0, .int 0, .long 0, .int 0]))] := hD
  have hP9 := hP.sub (ws' := [(h0, .inr (3, [.int a1, .int 0, .long 0, .int 0, .int 0, .int 0, .long 0, .int 0]))]) [0] rfl
  have hD9 := hD.sub (ws' := [(h0, .inr (3, [.int a1, .int 0, .long 0, .int 0, .int 0, .int 0, .long 0, .int 0]))]) [0] (by decide) rfl
  exact W.vret hx hb hr (fun t ht hW => ⟨⟨(fun k => [].getD k 0), rfl, trivial, by subst ht; exact hP9, hD9⟩, hS.F ht⟩) hS.2.2 dX3_init_9
theorem hdiX2_init : yX2_init.cls ≠ "java/lang/invoke/MethodHandle" ∧ yX2_init.cls ≠ "java/lang/invoke/VarHandle" ∧ (parseMethodDescriptor yX2_init.desc).map (fun d => d.parameters.length) = some 0 := by decide +kernel
set_option maxHeartbeats 8000000 in
set_option maxRecDepth 100000 in
theorem kX2_init (l : Launch) (g : Gx) (h0 sz : Nat)  : Met l yX2_init (ws_ yX2_init cX2_init 1 none) { frames := 1, cells := 1, slots := 1000, locals := 32 } (va_Pc [.ref h0] (WL sz g [(h0, .inr (2, [.null, .int 0, .int 0, .int 0, .int 0]))])) (va_Qv (fun (_ : Nat → Nat) => True) (fun u t => va_P g.1 vwCl [(h0, .inr (2, [.ref (u 0), .int 0, .int 0, .int 0, .int 0])), ((u 0), .inl (g.2.1.1, 1000, .inl (fun _ => 0)))] t.heap ∧ va_D (va_A [(h0, .inr (2, [.null, .int 0, .int 0, .int 0, .int 0]))] sz) [(h0, .inr (2, [.ref (u 0), .int 0, .int 0, .int 0, .int 0])), ((u 0), .inl (g.2.1.1, 1000, .inl (fun _ => 0)))]) (va_A [(h0, .inr (2, [.null, .int 0, .int 0, .int 0, .int 0]))] sz)) 1 1000 (va_A [(h0, .inr (2, [.null, .int 0, .int 0, .int 0, .int 0]))] sz) := by
  refine ofC (own := RX2) (by decide +kernel) rfl (fun p e s m below meth c A C0 hr hlk hin hK hAe hA hP hD hS hsz ls hl => ?_) (Nat.le_of_ble_eq_true rfl)
  have hx := C0.1
  have hb := C0.2.1
  subst hsz
  rw [← hAe]
  have hl : lv_has ls 1 [(0, .ref h0)] := hl
  refine lv_aload_n hx hb dX2_init_0 rfl (lv_at hl 0 rfl) ?_
  refine W.objInit hx hb C0.2.2.2.1 (C0.2.2.2.2 _ wML_X2_3) (C0.2.2.2.2 _ wIM_java_lang_Object__init____V) (C0.2.2.2.2 _ wCO_java_lang_Object__init____V) rfl (hl.1.trans C0.2.2.1.symm) rfl dX2_init_1 (Nat.le_of_ble_eq_true rfl) (Nat.le_of_ble_eq_true rfl) ?_
  refine W.eq (g2 := F0 m 4 ls []) rfl ?_
  refine lv_aload_n hx hb dX2_init_4 rfl (lv_at hl 0 rfl) ?_
  refine lv_sipush (v := 1000) hx hb dX2_init_5 (by decide) ?_
  refine va_newa (atype := .int) (ty := .int) hx hb (C0.2.2.2.2 _ warrayClass__int) rfl hK.1 hP hD hS hA (a0 := (1000, .inl (fun _ => 0))) (fun cA => rfl) (by decide) (by decide) (by decide) (Nat.le_of_ble_eq_true rfl) (Nat.le_of_ble_eq_true rfl) dX2_init_8 (fun q1 cA H hK1 hP hD hS => ?_)
  obtain rfl := cyI_eq hK (hK1.2 10 (cA, .int) rfl).2
  have hP : va_P g.1 vwCl [(h0, .inr (2, [.null, .int 0, .int 0, .int 0, .int 0])), (q1, .inl (g.2.1.1, 1000, .inl (fun _ => 0)))] H := hP
  have hD : va_D A [(h0, .inr (2, [.null, .int 0, .int 0, .int 0, .int 0])), (q1, .inl (g.2.1.1, 1000, .inl (fun _ => 0)))] := hD
  refine va_putF (A := A) (ci := 2) (v := .ref q1) (C := RX2) (T := TX2) (N := 5) hx hb C0.2.2.2.2 inX2_B tyX2 tyX2_ok nmX2 C0.2.2.2.1 hK.1 hP hD hS 0 rfl rfl 0 (by decide) (C0.2.2.2.2 _ wFL_X2_9) (fun _ h9 => h9) rfl hin rfl (tyX2_ok 0 (by decide)) rfl rfl (Nat.le_of_ble_eq_true rfl) dX2_init_10 (fun H locs hP hD hS => ?_)
  have hP : va_P g.1 vwCl [(h0, .inr (2, [.ref q1, .int 0, .int 0, .int 0, .int 0])), (q1, .inl (g.2.1.1, 1000, .inl (fun _ => 0)))] H := hP
  have hD : va_D A [(h0, .inr (2, [.ref q1, .int 0, .int 0, .int 0, .int 0])), (q1, .inl (g.2.1.1, 1000, .inl (fun _ => 0)))] := hD
  have hP9 := hP.sub (ws' := [(h0, .inr (2, [.ref q1, .int 0, .int 0, .int 0, .int 0])), (q1, .inl (g.2.1.1, 1000, .inl (fun _ => 0)))]) [0, 1] rfl
  have hD9 := hD.sub (ws' := [(h0, .inr (2, [.ref q1, .int 0, .int 0, .int 0, .int 0])), (q1, .inl (g.2.1.1, 1000, .inl (fun _ => 0)))]) [0, 1] (by decide) rfl
  exact W.vret hx hb hr (fun t ht hW => ⟨⟨(fun k => [q1].getD k 0), rfl, trivial, by subst ht; exact hP9, hD9⟩, hS.F ht⟩) hS.2.2 dX2_init_13
theorem hdiX1_init : yX1_init.cls ≠ "java/lang/invoke/MethodHandle" ∧ yX1_init.cls ≠ "java/lang/invoke/VarHandle" ∧ (parseMethodDescriptor yX1_init.desc).map (fun d => d.parameters.length) = some 0 := by decide +kernel
set_option maxHeartbeats 8000000 in
set_option maxRecDepth 100000 in
theorem kX1_init (l : Launch) (g : Gx) (h0 sz : Nat)  : Met l yX1_init (ws_ yX1_init cX1_init 1 none) { frames := 1, cells := 2, slots := 192, locals := 32 } (va_Pc [.ref h0] (WL sz g [(h0, .inr (1, [.null, .null, .int 0]))])) (va_Qv (fun (_ : Nat → Nat) => True) (fun u t => va_P g.1 vwCl [(h0, .inr (1, [.ref (u 0), .ref (u 1), .int 0])), ((u 0), .inl (g.2.1.1, 96, .inl (fun _ => 0))), ((u 1), .inl (g.2.1.1, 96, .inl (fun _ => 0)))] t.heap ∧ va_D (va_A [(h0, .inr (1, [.null, .null, .int 0]))] sz) [(h0, .inr (1, [.ref (u 0), .ref (u 1), .int 0])), ((u 0), .inl (g.2.1.1, 96, .inl (fun _ => 0))), ((u 1), .inl (g.2.1.1, 96, .inl (fun _ => 0)))]) (va_A [(h0, .inr (1, [.null, .null, .int 0]))] sz)) 2 192 (va_A [(h0, .inr (1, [.null, .null, .int 0]))] sz) := by
  refine ofC (own := RX1) (by decide +kernel) rfl (fun p e s m below meth c A C0 hr hlk hin hK hAe hA hP hD hS hsz ls hl => ?_) (Nat.le_of_ble_eq_true rfl)
  have hx := C0.1
  have hb := C0.2.1
  subst hsz
  rw [← hAe]
  have hl : lv_has ls 1 [(0, .ref h0)] := hl
  refine lv_aload_n hx hb dX1_init_0 rfl (lv_at hl 0 rfl) ?_
  refine W.objInit hx hb C0.2.2.2.1 (C0.2.2.2.2 _ wML_X1_3) (C0.2.2.2.2 _ wIM_java_lang_Object__init____V) (C0.2.2.2.2 _ wCO_java_lang_Object__init____V) rfl (hl.1.trans C0.2.2.1.symm) rfl dX1_init_1 (Nat.le_of_ble_eq_true rfl) (Nat.le_of_ble_eq_true rfl) ?_
  refine W.eq (g2 := F0 m 4 ls []) rfl ?_
  refine lv_aload_n hx hb dX1_init_4 rfl (lv_at hl 0 rfl) ?_
  refine lv_bipush (v := 96) hx hb dX1_init_5 (by decide) ?_
  refine va_newa (atype := .int) (ty := .int) hx hb (C0.2.2.2.2 _ warrayClass__int) rfl hK.1 hP hD hS hA (a0 := (96, .inl (fun _ => 0))) (fun cA => rfl) (by decide) (by decide) (by decide) (Nat.le_of_ble_eq_true rfl) (Nat.le_of_ble_eq_true rfl) dX1_init_7 (fun q1 cA H hK1 hP hD hS => ?_)
  obtain rfl := cyI_eq hK (hK1.2 10 (cA, .int) rfl).2
  have hP : va_P g.1 vwCl [(h0, .inr (1, [.null, .null, .int 0])), (q1, .inl (g.2.1.1, 96, .inl (fun _ => 0)))] H := hP
  have hD : va_D A [(h0, .inr (1, [.null, .null, .int 0])), (q1, .inl (g.2.1.1, 96, .inl (fun _ => 0)))] := hD
  refine va_putF (A := A) (ci := 1) (v := .ref q1) (C := RX1) (T := TX1) (N := 3) hx hb C0.2.2.2.2 inX1_B tyX1 tyX1_ok nmX1 C0.2.2.2.1 hK.1 hP hD hS 0 rfl rfl 0 (by decide) (C0.2.2.2.2 _ wFL_X1_9) (fun _ h9 => h9) rfl hin rfl (tyX1_ok 0 (by decide)) rfl rfl (Nat.le_of_ble_eq_true rfl) dX1_init_9 (fun H locs hP hD hS => ?_)
  have hP : va_P g.1 vwCl [(h0, .inr (1, [.ref q1, .null, .int 0])), (q1, .inl (g.2.1.1, 96, .inl (fun _ => 0)))] H := hP
  have hD : va_D A [(h0, .inr (1, [.ref q1, .null, .int 0])), (q1, .inl (g.2.1.1, 96, .inl (fun _ => 0)))] := hD
  refine lv_aload_n hx hb dX1_init_12 rfl (lv_at hl 0 rfl) ?_
  refine lv_bipush (v := 96) hx hb dX1_init_13 (by decide) ?_
  refine va_newa (atype := .int) (ty := .int) hx hb (C0.2.2.2.2 _ warrayClass__int) rfl hK.1 hP hD hS hA (a0 := (96, .inl (fun _ => 0))) (fun cA => rfl) (by decide) (by decide) (by decide) (Nat.le_of_ble_eq_true rfl) (Nat.le_of_ble_eq_true rfl) dX1_init_15 (fun q2 cA H hK1 hP hD hS => ?_)
  obtain rfl := cyI_eq hK (hK1.2 10 (cA, .int) rfl).2
  have hP : va_P g.1 vwCl [(h0, .inr (1, [.ref q1, .null, .int 0])), (q1, .inl (g.2.1.1, 96, .inl (fun _ => 0))), (q2, .inl (g.2.1.1, 96, .inl (fun _ => 0)))] H := hP
  have hD : va_D A [(h0, .inr (1, [.ref q1, .null, .int 0])), (q1, .inl (g.2.1.1, 96, .inl (fun _ => 0))), (q2, .inl (g.2.1.1, 96, .inl (fun _ => 0)))] := hD
  refine va_putF (A := A) (ci := 1) (v := .ref q2) (C := RX1) (T := TX1) (N := 3) hx hb C0.2.2.2.2 inX1_B tyX1 tyX1_ok nmX1 C0.2.2.2.1 hK.1 hP hD hS 0 rfl rfl 1 (by decide) (C0.2.2.2.2 _ wFL_X1_15) (fun _ h9 => h9) rfl hin rfl (tyX1_ok 1 (by decide)) rfl rfl (Nat.le_of_ble_eq_true rfl) dX1_init_17 (fun H locs hP hD hS => ?_)
  have hP : va_P g.1 vwCl [(h0, .inr (1, [.ref q1, .ref q2, .int 0])), (q1, .inl (g.2.1.1, 96, .inl (fun _ => 0))), (q2, .inl (g.2.1.1, 96, .inl (fun _ => 0)))] H := hP
  have hD : va_D A [(h0, .inr (1, [.ref q1, .ref q2, .int 0])), (q1, .inl (g.2.1.1, 96, .inl (fun _ => 0))), (q2, .inl (g.2.1.1, 96, .inl (fun _ => 0)))] := hD
  have hP9 := hP.sub (ws' := [(h0, .inr (1, [.ref q1, .ref q2, .int 0])), (q1, .inl (g.2.1.1, 96, .inl (fun _ => 0))), (q2, .inl (g.2.1.1, 96, .inl (fun _ => 0)))]) [0, 1, 2] rfl
  have hD9 := hD.sub (ws' := [(h0, .inr (1, [.ref q1, .ref q2, .int 0])), (q1, .inl (g.2.1.1, 96, .inl (fun _ => 0))), (q2, .inl (g.2.1.1, 96, .inl (fun _ => 0)))]) [0, 1, 2] (by decide) rfl
  exact W.vret hx hb hr (fun t ht hW => ⟨⟨(fun k => [q1, q2].getD k 0), rfl, trivial, by subst ht; exact hP9, hD9⟩, hS.F ht⟩) hS.2.2 dX1_init_20
theorem hdiX4_init : yX4_init.cls ≠ "java/lang/invoke/MethodHandle" ∧ yX4_init.cls ≠ "java/lang/invoke/VarHandle" ∧ (parseMethodDescriptor yX4_init.desc).map (fun d => d.parameters.length) = some 0 := by decide +kernel
set_option maxHeartbeats 8000000 in
set_option maxRecDepth 100000 in
theorem kX4_init (l : Launch) (g : Gx) (h0 sz : Nat)  : Met l yX4_init (ws_ yX4_init cX4_init 1 none) { frames := 2, cells := 4, slots := 1017, locals := 52 } (va_Pc [.ref h0] (WL sz g [(h0, .inr (4, [.null, .null, .null, .int 0, .int 0, .int 0, .int 0]))])) (va_Qv (fun (_ : Nat → Nat) => True) (fun u t => va_P g.1 vwCl [(h0, .inr (4, [.ref (u 0), .ref (u 1), .ref (u 2), .int 0, .int 0, .int 0, .int 0])), ((u 0), .inl (g.2.1.2.2.2.1, 4, .inr (.inr (.inr (.inr (fun _ => none)))))), ((u 1), .inl (g.2.1.2.2.2.2.1, 8, .inr (.inr (.inr (.inr (fun _ => none)))))), ((u 2), .inr (2, [.ref (u 3), .int 0, .int 0, .int 0, .int 0])), ((u 3), .inl (g.2.1.1, 1000, .inl (fun _ => 0)))] t.heap ∧ va_D (va_A [(h0, .inr (4, [.null, .null, .null, .int 0, .int 0, .int 0, .int 0]))] sz) [(h0, .inr (4, [.ref (u 0), .ref (u 1), .ref (u 2), .int 0, .int 0, .int 0, .int 0])), ((u 0), .inl (g.2.1.2.2.2.1, 4, .inr (.inr (.inr (.inr (fun _ => none)))))), ((u 1), .inl (g.2.1.2.2.2.2.1, 8, .inr (.inr (.inr (.inr (fun _ => none)))))), ((u 2), .inr (2, [.ref (u 3), .int 0, .int 0, .int 0, .int 0])), ((u 3), .inl (g.2.1.1, 1000, .inl (fun _ => 0)))]) (va_A [(h0, .inr (4, [.null, .null, .null, .int 0, .int 0, .int 0, .int 0]))] sz)) 4 1017 (va_A [(h0, .inr (4, [.null, .null, .null, .int 0, .int 0, .int 0, .int 0]))] sz) := by
  refine ofC (own := RX4) (by decide +kernel) rfl (fun p e s m below meth c A C0 hr hlk hin hK hAe hA hP hD hS hsz ls hl => ?_) (Nat.le_of_ble_eq_true rfl)
  have hx := C0.1
  have hb := C0.2.1
  subst hsz
  rw [← hAe]
  have hl : lv_has ls 1 [(0, .ref h0)] := hl
  refine lv_aload_n hx hb dX4_init_0 rfl (lv_at hl 0 rfl) ?_
  refine W.objInit hx hb C0.2.2.2.1 (C0.2.2.2.2 _ wML_X4_1) (C0.2.2.2.2 _ wIM_java_lang_Object__init____V) (C0.2.2.2.2 _ wCO_java_lang_Object__init____V) rfl (hl.1.trans C0.2.2.1.symm) rfl dX4_init_1 (Nat.le_of_ble_eq_true rfl) (Nat.le_of_ble_eq_true rfl) ?_
  refine W.eq (g2 := F0 m 4 ls []) rfl ?_
  refine lv_aload_n hx hb dX4_init_4 rfl (lv_at hl 0 rfl) ?_
  refine lv_iconst (v := 4) hx hb dX4_init_5 (by decide) ?_
  refine va_newq hx hb C0.2.2.2.1 (C0.2.2.2.2 _ wCL_X4_9) hK.2.2.1 hK.1 hP hD hS hA (by decide) (N' := 4) (by decide) (by decide) (Nat.le_of_ble_eq_true rfl) (Nat.le_of_ble_eq_true rfl) dX4_init_6 (fun q1 cA H hK1 hP hD hS => ?_)
  obtain rfl := cyS_eq hK (hK1.2 10 (cA, .object RX3) rfl).2
  have hP : va_P g.1 vwCl [(h0, .inr (4, [.null, .null, .null, .int 0, .int 0, .int 0, .int 0])), (q1, .inl (g.2.1.2.2.2.1, 4, .inr (.inr (.inr (.inr (fun _ => none))))))] H := hP
  have hD : va_D A [(h0, .inr (4, [.null, .null, .null, .int 0, .int 0, .int 0, .int 0])), (q1, .inl (g.2.1.2.2.2.1, 4, .inr (.inr (.inr (.inr (fun _ => none))))))] := hD
  refine va_putF (A := A) (ci := 4) (v := .ref q1) (C := RX4) (T := TX4) (N := 7) hx hb C0.2.2.2.2 inX4_B tyX4 tyX4_ok nmX4 C0.2.2.2.1 hK.1 hP hD hS 0 rfl rfl 0 (by decide) (C0.2.2.2.2 _ wFL_X4_11) (fun _ h9 => h9) rfl hin rfl (tyX4_ok 0 (by decide)) rfl rfl (Nat.le_of_ble_eq_true rfl) dX4_init_9 (fun H locs hP hD hS => ?_)
  have hP : va_P g.1 vwCl [(h0, .inr (4, [.ref q1, .null, .null, .int 0, .int 0, .int 0, .int 0])), (q1, .inl (g.2.1.2.2.2.1, 4, .inr (.inr (.inr (.inr (fun _ => none))))))] H := hP
  have hD : va_D A [(h0, .inr (4, [.ref q1, .null, .null, .int 0, .int 0, .int 0, .int 0])), (q1, .inl (g.2.1.2.2.2.1, 4, .inr (.inr (.inr (.inr (fun _ => none))))))] := hD
  refine lv_aload_n hx hb dX4_init_12 rfl (lv_at hl 0 rfl) ?_
  refine lv_bipush (v := 8) hx hb dX4_init_13 (by decide) ?_
  refine va_newq hx hb C0.2.2.2.1 (C0.2.2.2.2 _ wCL_X4_15) hK.2.2.2.1 hK.1 hP hD hS hA (by decide) (N' := 8) (by decide) (by decide) (Nat.le_of_ble_eq_true rfl) (Nat.le_of_ble_eq_true rfl) dX4_init_15 (fun q2 cA H hK1 hP hD hS => ?_)
  obtain rfl := cyB_eq hK (hK1.2 10 (cA, .object RX0) rfl).2
  have hP : va_P g.1 vwCl [(h0, .inr (4, [.ref q1, .null, .null, .int 0, .int 0, .int 0, .int 0])), (q1, .inl (g.2.1.2.2.2.1, 4, .inr (.inr (.inr (.inr (fun _ => none)))))), (q2, .inl (g.2.1.2.2.2.2.1, 8, .inr (.inr (.inr (.inr (fun _ => none))))))] H := hP
  have hD : va_D A [(h0, .inr (4, [.ref q1, .null, .null, .int 0, .int 0, .int 0, .int 0])), (q1, .inl (g.2.1.2.2.2.1, 4, .inr (.inr (.inr (.inr (fun _ => none)))))), (q2, .inl (g.2.1.2.2.2.2.1, 8, .inr (.inr (.inr (.inr (fun _ => none))))))] := hD
  refine va_putF (A := A) (ci := 4) (v := .ref q2) (C := RX4) (T := TX4) (N := 7) hx hb C0.2.2.2.2 inX4_B tyX4 tyX4_ok nmX4 C0.2.2.2.1 hK.1 hP hD hS 0 rfl rfl 1 (by decide) (C0.2.2.2.2 _ wFL_X4_17) (fun _ h9 => h9) rfl hin rfl (tyX4_ok 1 (by decide)) rfl rfl (Nat.le_of_ble_eq_true rfl) dX4_init_18 (fun H locs hP hD hS => ?_)
  have hP : va_P g.1 vwCl [(h0, .inr (4, [.ref q1, .ref q2, .null, .int 0, .int 0, .int 0, .int 0])), (q1, .inl (g.2.1.2.2.2.1, 4, .inr (.inr (.inr (.inr (fun _ => none)))))), (q2, .inl (g.2.1.2.2.2.2.1, 8, .inr (.inr (.inr (.inr (fun _ => none))))))] H := hP
  have hD : va_D A [(h0, .inr (4, [.ref q1, .ref q2, .null, .int 0, .int 0, .int 0, .int 0])), (q1, .inl (g.2.1.2.2.2.1, 4, .inr (.inr (.inr (.inr (fun _ => none)))))), (q2, .inl (g.2.1.2.2.2.2.1, 8, .inr (.inr (.inr (.inr (fun _ => none))))))] := hD
  refine lv_aload_n hx hb dX4_init_21 rfl (lv_at hl 0 rfl) ?_
  refine va_new (A := A) (ci := 2) (fs := [.null, .int 0, .int 0, .int 0, .int 0]) (C := RX2) (T := TX2) (N := 5) hx hb C0.2.2.2.2 inX2_B tyX2 tyX2_ok C0.2.2.2.1 (C0.2.2.2.2 _ wCL_X4_21) (C0.2.2.2.2 _ wIS_X2) (C0.2.2.2.2 _ wIN_X2) hK.1 hP hD hS hA rfl (fun j hj => by rcases (show j = 0 ∨ j = 1 ∨ j = 2 ∨ j = 3 ∨ j = 4 by omega) with rfl | rfl | rfl | rfl | rfl <;> rfl) (Nat.le_of_ble_eq_true rfl) (Nat.le_of_ble_eq_true rfl) dX4_init_22 (fun q3 H hP hD hS => ?_)
  have hP : va_P g.1 vwCl [(h0, .inr (4, [.ref q1, .ref q2, .null, .int 0, .int 0, .int 0, .int 0])), (q1, .inl (g.2.1.2.2.2.1, 4, .inr (.inr (.inr (.inr (fun _ => none)))))), (q2, .inl (g.2.1.2.2.2.2.1, 8, .inr (.inr (.inr (.inr (fun _ => none)))))), (q3, .inr (2, [.null, .int 0, .int 0, .int 0, .int 0]))] H := hP
  have hD : va_D A [(h0, .inr (4, [.ref q1, .ref q2, .null, .int 0, .int 0, .int 0, .int 0])), (q1, .inl (g.2.1.2.2.2.1, 4, .inr (.inr (.inr (.inr (fun _ => none)))))), (q2, .inl (g.2.1.2.2.2.2.1, 8, .inr (.inr (.inr (.inr (fun _ => none)))))), (q3, .inr (2, [.null, .int 0, .int 0, .int 0, .int 0]))] := hD
  refine lv_dup hx hb dX4_init_25 rfl ?_
  have hPc := hP.sub (ws' := [(q3, .inr (2, [.null, .int 0, .int 0, .int 0, .int 0]))]) [3] rfl
  have hDc := hD.sub (ws' := [(q3, .inr (2, [.null, .int 0, .int 0, .int 0, .int 0]))]) [3] (by decide) rfl
  have hFc := va_free (wc := [(q3, .inr (2, [.null, .int 0, .int 0, .int 0, .int 0]))]) hD hS hA [3] rfl
  refine va_callv (va_runIN (As := []) (rest := [.ref q3, .ref h0]) (host := "BirdParlour") C0 (kX2_init l g q3 H.size) ⟨va_cnB 0 C0.2.2.2.2 (ws_good wCO_X2_init) rfl rfl rfl (hK.2.1 (RX4, 23, yX2_init, "BirdParlour") (by decide +kernel)) (C0.2.2.2.2 _ wIN_X2) hdiX2_init ⟨(Nat.le_of_ble_eq_true rfl), (Nat.le_of_ble_eq_true rfl)⟩, rfl, C0.2.2.2.2 _ wIM_X2_init⟩ ⟨WL.blind, fun U hU hw => ⟨rfl, by rw [hU], by rw [hU]; exact hPc, hDc.weaken (fun _ _ _ _ => trivial), hK.warm hw⟩⟩ rfl rfl hl.1 rfl (lv_room (Nat.le_of_ble_eq_true rfl)) dX4_init_26 ⟨(Nat.le_of_ble_eq_true rfl), (Nat.le_of_ble_eq_true rfl)⟩) hS (fun q _ h => hFc q h) hFc (fun u4 t H1 locs ht hvm hw hB hz1 hk1 hS => ?_)
  obtain ⟨hP1, hD1⟩ := hB
  rw [ht] at hP1
  obtain ⟨hP, hD⟩ := va_join (wr := [(h0, .inr (4, [.ref q1, .ref q2, .null, .int 0, .int 0, .int 0, .int 0])), (q1, .inl (g.2.1.2.2.2.1, 4, .inr (.inr (.inr (.inr (fun _ => none)))))), (q2, .inl (g.2.1.2.2.2.2.1, 8, .inr (.inr (.inr (.inr (fun _ => none))))))]) (w1 := [(q3, .inr (2, [.ref (u4 0), .int 0, .int 0, .int 0, .int 0])), ((u4 0), .inl (g.2.1.1, 1000, .inl (fun _ => 0)))]) hP hD [3] [0, 1, 2] rfl rfl (by decide) (by decide) hk1 hFc hP1 hD1
  generalize H1 = H at hP hS ⊢
  have hP : va_P g.1 vwCl [(h0, .inr (4, [.ref q1, .ref q2, .null, .int 0, .int 0, .int 0, .int 0])), (q1, .inl (g.2.1.2.2.2.1, 4, .inr (.inr (.inr (.inr (fun _ => none)))))), (q2, .inl (g.2.1.2.2.2.2.1, 8, .inr (.inr (.inr (.inr (fun _ => none)))))), (q3, .inr (2, [.ref (u4 0), .int 0, .int 0, .int 0, .int 0])), ((u4 0), .inl (g.2.1.1, 1000, .inl (fun _ => 0)))] H := hP
  have hD : va_D A [(h0, .inr (4, [.ref q1, .ref q2, .null, .int 0, .int 0, .int 0, .int 0])), (q1, .inl (g.2.1.2.2.2.1, 4, .inr (.inr (.inr (.inr (fun _ => none)))))), (q2, .inl (g.2.1.2.2.2.2.1, 8, .inr (.inr (.inr (.inr (fun _ => none)))))), (q3, .inr (2, [.ref (u4 0), .int 0, .int 0, .int 0, .int 0])), ((u4 0), .inl (g.2.1.1, 1000, .inl (fun _ => 0)))] := hD
  refine va_putF (A := A) (ci := 4) (v := .ref q3) (C := RX4) (T := TX4) (N := 7) hx hb C0.2.2.2.2 inX4_B tyX4 tyX4_ok nmX4 C0.2.2.2.1 hK.1 hP hD hS 0 rfl rfl 2 (by decide) (C0.2.2.2.2 _ wFL_X4_24) (fun _ h9 => h9) rfl hin rfl (tyX4_ok 2 (by decide)) rfl rfl (Nat.le_of_ble_eq_true rfl) dX4_init_29 (fun H locs hP hD hS => ?_)
  have hP : va_P g.1 vwCl [(h0, .inr (4, [.ref q1, .ref q2, .ref q3, .int 0, .int 0, .int 0, .int 0])), (q1, .inl (g.2.1.2.2.2.1, 4, .inr (.inr (.inr (.inr (fun _ => none)))))), (q2, .inl (g.2.1.2.2.2.2.1, 8, .inr (.inr (.inr (.inr (fun _ => none)))))), (q3, .inr (2, [.ref (u4 0), .int 0, .int 0, .int 0, .int 0])), ((u4 0), .inl (g.2.1.1, 1000, .inl (fun _ => 0)))] H := hP
  have hD : va_D A [(h0, .inr (4, [.ref q1, .ref q2, .ref q3, .int 0, .int 0, .int 0, .int 0])), (q1, .inl (g.2.1.2.2.2.1, 4, .inr (.inr (.inr (.inr (fun _ => none)))))), (q2, .inl (g.2.1.2.2.2.2.1, 8, .inr (.inr (.inr (.inr (fun _ => none)))))), (q3, .inr (2, [.ref (u4 0), .int 0, .int 0, .int 0, .int 0])), ((u4 0), .inl (g.2.1.1, 1000, .inl (fun _ => 0)))] := hD
  have hP9 := hP.sub (ws' := [(h0, .inr (4, [.ref q1, .ref q2, .ref q3, .int 0, .int 0, .int 0, .int 0])), (q1, .inl (g.2.1.2.2.2.1, 4, .inr (.inr (.inr (.inr (fun _ => none)))))), (q2, .inl (g.2.1.2.2.2.2.1, 8, .inr (.inr (.inr (.inr (fun _ => none)))))), (q3, .inr (2, [.ref (u4 0), .int 0, .int 0, .int 0, .int 0])), ((u4 0), .inl (g.2.1.1, 1000, .inl (fun _ => 0)))]) [0, 1, 2, 3, 4] rfl
  have hD9 := hD.sub (ws' := [(h0, .inr (4, [.ref q1, .ref q2, .ref q3, .int 0, .int 0, .int 0, .int 0])), (q1, .inl (g.2.1.2.2.2.1, 4, .inr (.inr (.inr (.inr (fun _ => none)))))), (q2, .inl (g.2.1.2.2.2.2.1, 8, .inr (.inr (.inr (.inr (fun _ => none)))))), (q3, .inr (2, [.ref (u4 0), .int 0, .int 0, .int 0, .int 0])), ((u4 0), .inl (g.2.1.1, 1000, .inl (fun _ => 0)))]) [0, 1, 2, 3, 4] (by decide) rfl
  exact W.vret hx hb hr (fun t ht hW => ⟨⟨(fun k => [q1, q2, q3, (u4 0)].getD k 0), rfl, trivial, by subst ht; exact hP9, hD9⟩, hS.F ht⟩) hS.2.2 dX4_init_32
theorem hdiX0_init : yX0_init.cls ≠ "java/lang/invoke/MethodHandle" ∧ yX0_init.cls ≠ "java/lang/invoke/VarHandle" ∧ (parseMethodDescriptor yX0_init.desc).map (fun d => d.parameters.length) = some 6 := by decide +kernel
set_option maxHeartbeats 8000000 in
set_option maxRecDepth 100000 in
theorem kX0_init (l : Launch) (g : Gx) (h0 sz : Nat) (a1 : Int32) (a2 : Int32) (a3 : Int32) (a4 : Int32) (a5 : Int32) (a6 : Int64) : Met l yX0_init (ws_ yX0_init cX0_init 9 none) { frames := 2, cells := 12, slots := 690, locals := 52 } (va_Pc [.ref h0, .int a1, .int a2, .int a3, .int a4, .int a5, .long a6] (WL sz g [(h0, .inr (0, [.int 0, .int 0, .int 0, .int 0, .int 0, .null, .null, .null, .int 0, .int 0, .long 0, .long 0, .int 0, .long 0, .int 0]))])) (va_Qv (fun (_ : Nat → Nat) => True) (fun u t => va_P g.1 vwCl [(h0, .inr (0, [.int a1, .int a2, .int a3, .int a4, .int a5, .ref (u 0), .ref (u 1), .ref (u 2), .int 0, .int 1, .long a6, .long 0, .int 0, .long 0, .int 0])), ((u 0), .inl (g.2.1.1, 96, .inl (fun _ => 0))), ((u 1), .inl (g.2.1.1, 6, .inl (upd (upd (upd (upd (upd (upd (fun _ => 0) (0 : Int32).toNatClampNeg (60 + (2 * 0))) (1 : Int32).toNatClampNeg (60 + (2 * 1))) (2 : Int32).toNatClampNeg (60 + (2 * 2))) (3 : Int32).toNatClampNeg (60 + (2 * 3))) (4 : Int32).toNatClampNeg (60 + (2 * 4))) (5 : Int32).toNatClampNeg (60 + (2 * 5))))), ((u 2), .inl (g.2.1.2.2.2.2.2, 3, .inr (.inr (.inr (.inr (va_up (va_up (va_up (fun _ => none) (0 : Int32).toNatClampNeg (some (u 3))) (1 : Int32).toNatClampNeg (some (u 6))) (2 : Int32).toNatClampNeg (some (u 9)))))))), ((u 3), .inr (1, [.ref (u 4), .ref (u 5), .int 0])), ((u 4), .inl (g.2.1.1, 96, .inl (fun _ => 0))), ((u 5), .inl (g.2.1.1, 96, .inl (fun _ => 0))), ((u 6), .inr (1, [.ref (u 7), .ref (u 8), .int 0])), ((u 7), .inl (g.2.1.1, 96, .inl (fun _ => 0))), ((u 8), .inl (g.2.1.1, 96, .inl (fun _ => 0))), ((u 9), .inr (1, [.ref (u 10), .ref (u 11), .int 0])), ((u 10), .inl (g.2.1.1, 96, .inl (fun _ => 0))), ((u 11), .inl (g.2.1.1, 96, .inl (fun _ => 0)))] t.heap ∧ va_D (va_A [(h0, .inr (0, [.int 0, .int 0, .int 0, .int 0, .int 0, .null, .null, .null, .int 0, .int 0, .long 0, .long 0, .int 0, .long 0, .int 0]))] sz) [(h0, .inr (0, [.int a1, .int a2, .int a3, .int a4, .int a5, .ref (u 0), .ref (u 1), .ref (u 2), .int 0, .int 1, .long a6, .long 0, .int 0, .long 0, .int 0])), ((u 0), .inl (g.2.1.1, 96, .inl (fun _ => 0))), ((u 1), .inl (g.2.1.1, 6, .inl (upd (upd (upd (upd (upd (upd (fun _ => 0) (0 : Int32).toNatClampNeg (60 + (2 * 0))) (1 : Int32).toNatClampNeg (60 + (2 * 1))) (2 : Int32).toNatClampNeg (60 + (2 * 2))) (3 : Int32).toNatClampNeg (60 + (2 * 3))) (4 : Int32).toNatClampNeg (60 + (2 * 4))) (5 : Int32).toNatClampNeg (60 + (2 * 5))))), ((u 2), .inl (g.2.1.2.2.2.2.2, 3, .inr (.inr (.inr (.inr (va_up (va_up (va_up (fun _ => none) (0 : Int32).toNatClampNeg (some (u 3))) (1 : Int32).toNatClampNeg (some (u 6))) (2 : Int32).toNatClampNeg (some (u 9)))))))), ((u 3), .inr (1, [.ref (u 4), .ref (u 5), .int 0])), ((u 4), .inl (g.2.1.1, 96, .inl (fun _ => 0))), ((u 5), .inl (g.2.1.1, 96, .inl (fun _ => 0))), ((u 6), .inr (1, [.ref (u 7), .ref (u 8), .int 0])), ((u 7), .inl (g.2.1.1, 96, .inl (fun _ => 0))), ((u 8), .inl (g.2.1.1, 96, .inl (fun _ => 0))), ((u 9), .inr (1, [.ref (u 10), .ref (u 11), .int 0])), ((u 10), .inl (g.2.1.1, 96, .inl (fun _ => 0))), ((u 11), .inl (g.2.1.1, 96, .inl (fun _ => 0)))]) (va_A [(h0, .inr (0, [.int 0, .int 0, .int 0, .int 0, .int 0, .null, .null, .null, .int 0, .int 0, .long 0, .long 0, .int 0, .long 0, .int 0]))] sz)) 12 690 (va_A [(h0, .inr (0, [.int 0, .int 0, .int 0, .int 0, .int 0, .null, .null, .null, .int 0, .int 0, .long 0, .long 0, .int 0, .long 0, .int 0]))] sz) := by
  refine ofC (own := RX0) (by decide +kernel) rfl (fun p e s m below meth c A C0 hr hlk hin hK hAe hA hP hD hS hsz ls hl => ?_) (Nat.le_of_ble_eq_true rfl)
  have hx := C0.1
  have hb := C0.2.1
  subst hsz
  rw [← hAe]
  have hl : lv_has ls 9 [(0, .ref h0), (1, .int a1), (2, .int a2), (3, .int a3), (4, .int a4), (5, .int a5), (6, .long a6)] := hl
  refine lv_aload_n hx hb dX0_init_0 rfl (lv_at hl 0 rfl) ?_
  refine W.objInit hx hb C0.2.2.2.1 (C0.2.2.2.2 _ wML_X0_3) (C0.2.2.2.2 _ wIM_java_lang_Object__init____V) (C0.2.2.2.2 _ wCO_java_lang_Object__init____V) rfl (hl.1.trans C0.2.2.1.symm) rfl dX0_init_1 (Nat.le_of_ble_eq_true rfl) (Nat.le_of_ble_eq_true rfl) ?_
  refine W.eq (g2 := F0 m 4 ls []) rfl ?_
  refine lv_aload_n hx hb dX0_init_4 rfl (lv_at hl 0 rfl) ?_
  refine lv_bipush (v := 96) hx hb dX0_init_5 (by decide) ?_
  refine va_newa (atype := .int) (ty := .int) hx hb (C0.2.2.2.2 _ warrayClass__int) rfl hK.1 hP hD hS hA (a0 := (96, .inl (fun _ => 0))) (fun cA => rfl) (by decide) (by decide) (by decide) (Nat.le_of_ble_eq_true rfl) (Nat.le_of_ble_eq_true rfl) dX0_init_7 (fun q1 cA H hK1 hP hD hS => ?_)
  obtain rfl := cyI_eq hK (hK1.2 10 (cA, .int) rfl).2
  have hP : va_P g.1 vwCl [(h0, .inr (0, [.int 0, .int 0, .int 0, .int 0, .int 0, .null, .null, .null, .int 0, .int 0, .long 0, .long 0, .int 0, .long 0, .int 0])), (q1, .inl (g.2.1.1, 96, .inl (fun _ => 0)))] H := hP
  have hD : va_D A [(h0, .inr (0, [.int 0, .int 0, .int 0, .int 0, .int 0, .null, .null, .null, .int 0, .int 0, .long 0, .long 0, .int 0, .long 0, .int 0])), (q1, .inl (g.2.1.1, 96, .inl (fun _ => 0)))] := hD
  refine va_putF (A := A) (ci := 0) (v := .ref q1) (C := RX0) (T := TX0) (N := 15) hx hb C0.2.2.2.2 inX0_B tyX0 tyX0_ok nmX0 C0.2.2.2.1 hK.1 hP hD hS 0 rfl rfl 5 (by decide) (C0.2.2.2.2 _ wFL_X0_9) (fun _ h9 => h9) rfl hin rfl (tyX0_ok 5 (by decide)) rfl rfl (Nat.le_of_ble_eq_true rfl) dX0_init_9 (fun H locs hP hD hS => ?_)
  have hP : va_P g.1 vwCl [(h0, .inr (0, [.int 0, .int 0, .int 0, .int 0, .int 0, .ref q1, .null, .null, .int 0, .int 0, .long 0, .long 0, .int 0, .long 0, .int 0])), (q1, .inl (g.2.1.1, 96, .inl (fun _ => 0)))] H := hP
  have hD : va_D A [(h0, .inr (0, [.int 0, .int 0, .int 0, .int 0, .int 0, .ref q1, .null, .null, .int 0, .int 0, .long 0, .long 0, .int 0, .long 0, .int 0])), (q1, .inl (g.2.1.1, 96, .inl (fun _ => 0)))] := hD
  refine lv_aload_n hx hb dX0_init_12 rfl (lv_at hl 0 rfl) ?_
  refine lv_bipush (v := 6) hx hb dX0_init_13 (by decide) ?_
  refine va_newa (atype := .int) (ty := .int) hx hb (C0.2.2.2.2 _ warrayClass__int) rfl hK.1 hP hD hS hA (a0 := (6, .inl (fun _ => 0))) (fun cA => rfl) (by decide) (by decide) (by decide) (Nat.le_of_ble_eq_true rfl) (Nat.le_of_ble_eq_true rfl) dX0_init_15 (fun q2 cA H hK1 hP hD hS => ?_)
  obtain rfl := cyI_eq hK (hK1.2 10 (cA, .int) rfl).2
  have hP : va_P g.1 vwCl [(h0, .inr (0, [.int 0, .int 0, .int 0, .int 0, .int 0, .ref q1, .null, .null, .int 0, .int 0, .long 0, .long 0, .int 0, .long 0, .int 0])), (q1, .inl (g.2.1.1, 96, .inl (fun _ => 0))), (q2, .inl (g.2.1.1, 6, .inl (fun _ => 0)))] H := hP
  have hD : va_D A [(h0, .inr (0, [.int 0, .int 0, .int 0, .int 0, .int 0, .ref q1, .null, .null, .int 0, .int 0, .long 0, .long 0, .int 0, .long 0, .int 0])), (q1, .inl (g.2.1.1, 96, .inl (fun _ => 0))), (q2, .inl (g.2.1.1, 6, .inl (fun _ => 0)))] := hD
  refine va_putF (A := A) (ci := 0) (v := .ref q2) (C := RX0) (T := TX0) (N := 15) hx hb C0.2.2.2.2 inX0_B tyX0 tyX0_ok nmX0 C0.2.2.2.1 hK.1 hP hD hS 0 rfl rfl 6 (by decide) (C0.2.2.2.2 _ wFL_X0_15) (fun _ h9 => h9) rfl hin rfl (tyX0_ok 6 (by decide)) rfl rfl (Nat.le_of_ble_eq_true rfl) dX0_init_17 (fun H locs hP hD hS => ?_)
  have hP : va_P g.1 vwCl [(h0, .inr (0, [.int 0, .int 0, .int 0, .int 0, .int 0, .ref q1, .ref q2, .null, .int 0, .int 0, .long 0, .long 0, .int 0, .long 0, .int 0])), (q1, .inl (g.2.1.1, 96, .inl (fun _ => 0))), (q2, .inl (g.2.1.1, 6, .inl (fun _ => 0)))] H := hP
  have hD : va_D A [(h0, .inr (0, [.int 0, .int 0, .int 0, .int 0, .int 0, .ref q1, .ref q2, .null, .int 0, .int 0, .long 0, .long 0, .int 0, .long 0, .int 0])), (q1, .inl (g.2.1.1, 96, .inl (fun _ => 0))), (q2, .inl (g.2.1.1, 6, .inl (fun _ => 0)))] := hD
  refine lv_aload_n hx hb dX0_init_20 rfl (lv_at hl 0 rfl) ?_
  refine lv_iconst (v := 3) hx hb dX0_init_21 (by decide) ?_
  refine va_newq hx hb C0.2.2.2.1 (C0.2.2.2.2 _ wCL_X0_18) hK.2.2.2.2.1 hK.1 hP hD hS hA (by decide) (N' := 3) (by decide) (by decide) (Nat.le_of_ble_eq_true rfl) (Nat.le_of_ble_eq_true rfl) dX0_init_22 (fun q3 cA H hK1 hP hD hS => ?_)
  obtain rfl := cyC_eq hK (hK1.2 10 (cA, .object RX1) rfl).2
  have hP : va_P g.1 vwCl [(h0, .inr (0, [.int 0, .int 0, .int 0, .int 0, .int 0, .ref q1, .ref q2, .null, .int 0, .int 0, .long 0, .long 0, .int 0, .long 0, .int 0])), (q1, .inl (g.2.1.1, 96, .inl (fun _ => 0))), (q2, .inl (g.2.1.1, 6, .inl (fun _ => 0))), (q3, .inl (g.2.1.2.2.2.2.2, 3, .inr (.inr (.inr (.inr (fun _ => none))))))] H := hP
  have hD : va_D A [(h0, .inr (0, [.int 0, .int 0, .int 0, .int 0, .int 0, .ref q1, .ref q2, .null, .int 0, .int 0, .long 0, .long 0, .int 0, .long 0, .int 0])), (q1, .inl (g.2.1.1, 96, .inl (fun _ => 0))), (q2, .inl (g.2.1.1, 6, .inl (fun _ => 0))), (q3, .inl (g.2.1.2.2.2.2.2, 3, .inr (.inr (.inr (.inr (fun _ => none))))))] := hD
  refine va_putF (A := A) (ci := 0) (v := .ref q3) (C := RX0) (T := TX0) (N := 15) hx hb C0.2.2.2.2 inX0_B tyX0 tyX0_ok nmX0 C0.2.2.2.1 hK.1 hP hD hS 0 rfl rfl 7 (by decide) (C0.2.2.2.2 _ wFL_X0_20) (fun _ h9 => h9) rfl hin rfl (tyX0_ok 7 (by decide)) rfl rfl (Nat.le_of_ble_eq_true rfl) dX0_init_25 (fun H locs hP hD hS => ?_)
  have hP : va_P g.1 vwCl [(h0, .inr (0, [.int 0, .int 0, .int 0, .int 0, .int 0, .ref q1, .ref q2, .ref q3, .int 0, .int 0, .long 0, .long 0, .int 0, .long 0, .int 0])), (q1, .inl (g.2.1.1, 96, .inl (fun _ => 0))), (q2, .inl (g.2.1.1, 6, .inl (fun _ => 0))), (q3, .inl (g.2.1.2.2.2.2.2, 3, .inr (.inr (.inr (.inr (fun _ => none))))))] H := hP
  have hD : va_D A [(h0, .inr (0, [.int 0, .int 0, .int 0, .int 0, .int 0, .ref q1, .ref q2, .ref q3, .int 0, .int 0, .long 0, .long 0, .int 0, .long 0, .int 0])), (q1, .inl (g.2.1.1, 96, .inl (fun _ => 0))), (q2, .inl (g.2.1.1, 6, .inl (fun _ => 0))), (q3, .inl (g.2.1.2.2.2.2.2, 3, .inr (.inr (.inr (.inr (fun _ => none))))))] := hD
  refine lv_aload_n hx hb dX0_init_28 rfl (lv_at hl 0 rfl) ?_
  refine lv_iload_n hx hb dX0_init_29 rfl (lv_at hl 1 rfl) ?_
  refine va_putF (A := A) (ci := 0) (v := .int a1) (C := RX0) (T := TX0) (N := 15) hx hb C0.2.2.2.2 inX0_B tyX0 tyX0_ok nmX0 C0.2.2.2.1 hK.1 hP hD hS 0 rfl rfl 0 (by decide) (C0.2.2.2.2 _ wFL_X0_24) (fun _ h9 => h9) rfl hin rfl (tyX0_ok 0 (by decide)) rfl rfl (Nat.le_of_ble_eq_true rfl) dX0_init_30 (fun H locs hP hD hS => ?_)
  have hP : va_P g.1 vwCl [(h0, .inr (0, [.int a1, .int 0, .int 0, .int 0, .int 0, .ref q1, .ref q2, .ref q3, .int 0, .int 0, .long 0, .long 0, .int 0, .long 0, .int 0])), (q1, .inl (g.2.1.1, 96, .inl (fun _ => 0))), (q2, .inl (g.2.1.1, 6, .inl (fun _ => 0))), (q3, .inl (g.2.1.2.2.2.2.2, 3, .inr (.inr (.inr (.inr (fun _ => none))))))] H := hP
  have hD : va_D A [(h0, .inr (0, [.int a1, .int 0, .int 0, .int 0, .int 0, .ref q1, .ref q2, .ref q3, .int 0, .int 0, .long 0, .long 0, .int 0, .long 0, .int 0])), (q1, .inl (g.2.1.1, 96, .inl (fun _ => 0))), (q2, .inl (g.2.1.1, 6, .inl (fun _ => 0))), (q3, .inl (g.2.1.2.2.2.2.2, 3, .inr (.inr (.inr (.inr (fun _ => none))))))] := hD
  refine lv_aload_n hx hb dX0_init_33 rfl (lv_at hl 0 rfl) ?_
  refine lv_iload_n hx hb dX0_init_34 rfl (lv_at hl 2 rfl) ?_
  refine va_putF (A := A) (ci := 0) (v := .int a2) (C := RX0) (T := TX0) (N := 15) hx hb C0.2.2.2.2 inX0_B tyX0 tyX0_ok nmX0 C0.2.2.2.1 hK.1 hP hD hS 0 rfl rfl 1 (by decide) (C0.2.2.2.2 _ wFL_X0_28) (fun _ h9 => h9) rfl hin rfl (tyX0_ok 1 (by decide)) rfl rfl (Nat.le_of_ble_eq_true rfl) dX0_init_35 (fun H locs hP hD hS => ?_)
  have hP : va_P g.1 vwCl [(h0, .inr (0, [.int a1, .int a2, .int 0, .int 0, .int 0, .ref q1, .ref q2, .ref q3, .int 0, .int 0, .long 0, .long 0, .int 0, .long 0, .int 0])), (q1, .inl (g.2.1.1, 96, .inl (fun _ => 0))), (q2, .inl (g.2.1.1, 6, .inl (fun _ => 0))), (q3, .inl (g.2.1.2.2.2.2.2, 3, .inr (.inr (.inr (.inr (fun _ => none))))))] H := hP
  have hD : va_D A [(h0, .inr (0, [.int a1, .int a2, .int 0, .int 0, .int 0, .ref q1, .ref q2, .ref q3, .int 0, .int 0, .long 0, .long 0, .int 0, .long 0, .int 0])), (q1, .inl (g.2.1.1, 96, .inl (fun _ => 0))), (q2, .inl (g.2.1.1, 6, .inl (fun _ => 0))), (q3, .inl (g.2.1.2.2.2.2.2, 3, .inr (.inr (.inr (.inr (fun _ => none))))))] := hD
  refine lv_aload_n hx hb dX0_init_38 rfl (lv_at hl 0 rfl) ?_
  refine lv_iload_n hx hb dX0_init_39 rfl (lv_at hl 3 rfl) ?_
  refine va_putF (A := A) (ci := 0) (v := .int a3) (C := RX0) (T := TX0) (N := 15) hx hb C0.2.2.2.2 inX0_B tyX0 tyX0_ok nmX0 C0.2.2.2.1 hK.1 hP hD hS 0 rfl rfl 2 (by decide) (C0.2.2.2.2 _ wFL_X0_31) (fun _ h9 => h9) rfl hin rfl (tyX0_ok 2 (by decide)) rfl rfl (Nat.le_of_ble_eq_true rfl) dX0_init_40 (fun H locs hP hD hS => ?_)
  have hP : va_P g.1 vwCl [(h0, .inr (0, [.int a1, .int a2, .int a3, .int 0, .int 0, .ref q1, .ref q2, .ref q3, .int 0, .int 0, .long 0, .long 0, .int 0, .long 0, .int 0])), (q1, .inl (g.2.1.1, 96, .inl (fun _ => 0))), (q2, .inl (g.2.1.1, 6, .inl (fun _ => 0))), (q3, .inl (g.2.1.2.2.2.2.2, 3, .inr (.inr (.inr (.inr (fun _ => none))))))] H := hP
  have hD : va_D A [(h0, .inr (0, [.int a1, .int a2, .int a3, .int 0, .int 0, .ref q1, .ref q2, .ref q3, .int 0, .int 0, .long 0, .long 0, .int 0, .long 0, .int 0])), (q1, .inl (g.2.1.1, 96, .inl (fun _ => 0))), (q2, .inl (g.2.1.1, 6, .inl (fun _ => 0))), (q3, .inl (g.2.1.2.2.2.2.2, 3, .inr (.inr (.inr (.inr (fun _ => none))))))] := hD
  refine lv_aload_n hx hb dX0_init_43 rfl (lv_at hl 0 rfl) ?_
  refine lv_iload hx hb dX0_init_44 (lv_at hl 4 rfl) ?_
  refine va_putF (A := A) (ci := 0) (v := .int a4) (C := RX0) (T := TX0) (N := 15) hx hb C0.2.2.2.2 inX0_B tyX0 tyX0_ok nmX0 C0.2.2.2.1 hK.1 hP hD hS 0 rfl rfl 3 (by decide) (C0.2.2.2.2 _ wFL_X0_34) (fun _ h9 => h9) rfl hin rfl (tyX0_ok 3 (by decide)) rfl rfl (Nat.le_of_ble_eq_true rfl) dX0_init_46 (fun H locs hP hD hS => ?_)
  have hP : va_P g.1 vwCl [(h0, .inr (0, [.int a1, .int a2, .int a3, .int a4, .int 0, .ref q1, .ref q2, .ref q3, .int 0, .int 0, .long 0, .long 0, .int 0, .long 0, .int 0])), (q1, .inl (g.2.1.1, 96, .inl (fun _ => 0))), (q2, .inl (g.2.1.1, 6, .inl (fun _ => 0))), (q3, .inl (g.2.1.2.2.2.2.2, 3, .inr (.inr (.inr (.inr (fun _ => none))))))] H := hP
  have hD : va_D A [(h0, .inr (0, [.int a1, .int a2, .int a3, .int a4, .int 0, .ref q1, .ref q2, .ref q3, .int 0, .int 0, .long 0, .long 0, .int 0, .long 0, .int 0])), (q1, .inl (g.2.1.1, 96, .inl (fun _ => 0))), (q2, .inl (g.2.1.1, 6, .inl (fun _ => 0))), (q3, .inl (g.2.1.2.2.2.2.2, 3, .inr (.inr (.inr (.inr (fun _ => none))))))] := hD
  refine lv_aload_n hx hb dX0_init_49 rfl (lv_at hl 0 rfl) ?_
  refine lv_iload hx hb dX0_init_50 (lv_at hl 5 rfl) ?_
  refine va_putF (A := A) (ci := 0) (v := .int a5) (C := RX0) (T := TX0) (N := 15) hx hb C0.2.2.2.2 inX0_B tyX0 tyX0_ok nmX0 C0.2.2.2.1 hK.1 hP hD hS 0 rfl rfl 4 (by decide) (C0.2.2.2.2 _ wFL_X0_37) (fun _ h9 => h9) rfl hin rfl (tyX0_ok 4 (by decide)) rfl rfl (Nat.le_of_ble_eq_true rfl) dX0_init_52 (fun H locs hP hD hS => ?_)
  have hP : va_P g.1 vwCl [(h0, .inr (0, [.int a1, .int a2, .int a3, .int a4, .int a5, .ref q1, .ref q2, .ref q3, .int 0, .int 0, .long 0, .long 0, .int 0, .long 0, .int 0])), (q1, .inl (g.2.1.1, 96, .inl (fun _ => 0))), (q2, .inl (g.2.1.1, 6, .inl (fun _ => 0))), (q3, .inl (g.2.1.2.2.2.2.2, 3, .inr (.inr (.inr (.inr (fun _ => none))))))] H := hP
  have hD : va_D A [(h0, .inr (0, [.int a1, .int a2, .int a3, .int a4, .int a5, .ref q1, .ref q2, .ref q3, .int 0, .int 0, .long 0, .long 0, .int 0, .long 0, .int 0])), (q1, .inl (g.2.1.1, 96, .inl (fun _ => 0))), (q2, .inl (g.2.1.1, 6, .inl (fun _ => 0))), (q3, .inl (g.2.1.2.2.2.2.2, 3, .inr (.inr (.inr (.inr (fun _ => none))))))] := hD
  refine lv_aload_n hx hb dX0_init_55 rfl (lv_at hl 0 rfl) ?_
  refine lv_iconst (v := 1) hx hb dX0_init_56 (by decide) ?_
  refine va_put (A := A) (ci := 0) (v := .int 1) (C := RX0) (T := TX0) (N := 15) hx hb C0.2.2.2.2 inX0_B tyX0 tyX0_ok nmX0 C0.2.2.2.1 hK.1 hP hD hS 0 rfl rfl 9 (by decide) (C0.2.2.2.2 _ wFL_X0_40) (fun _ h9 => h9) rfl (tyX0_ok 9 (by decide)) rfl rfl (Nat.le_of_ble_eq_true rfl) dX0_init_57 (fun H locs hP hD hS => ?_)
  have hP : va_P g.1 vwCl [(h0, .inr (0, [.int a1, .int a2, .int a3, .int a4, .int a5, .ref q1, .ref q2, .ref q3, .int 0, .int 1, .long 0, .long 0, .int 0, .long 0, .int 0])), (q1, .inl (g.2.1.1, 96, .inl (fun _ => 0))), (q2, .inl (g.2.1.1, 6, .inl (fun _ => 0))), (q3, .inl (g.2.1.2.2.2.2.2, 3, .inr (.inr (.inr (.inr (fun _ => none))))))] H := hP
  have hD : va_D A [(h0, .inr (0, [.int a1, .int a2, .int a3, .int a4, .int a5, .ref q1, .ref q2, .ref q3, .int 0, .int 1, .long 0, .long 0, .int 0, .long 0, .int 0])), (q1, .inl (g.2.1.1, 96, .inl (fun _ => 0))), (q2, .inl (g.2.1.1, 6, .inl (fun _ => 0))), (q3, .inl (g.2.1.2.2.2.2.2, 3, .inr (.inr (.inr (.inr (fun _ => none))))))] := hD
  refine lv_aload_n hx hb dX0_init_60 rfl (lv_at hl 0 rfl) ?_
  refine lv_lload hx hb dX0_init_61 (lv_at hl 6 rfl) ?_
  refine va_put (A := A) (ci := 0) (v := .long a6) (C := RX0) (T := TX0) (N := 15) hx hb C0.2.2.2.2 inX0_B tyX0 tyX0_ok nmX0 C0.2.2.2.1 hK.1 hP hD hS 0 rfl rfl 10 (by decide) (C0.2.2.2.2 _ wFL_X0_44) (fun _ h9 => h9) rfl (tyX0_ok 10 (by decide)) rfl rfl (Nat.le_of_ble_eq_true rfl) dX0_init_63 (fun H locs hP hD hS => ?_)
  have hP : va_P g.1 vwCl [(h0, .inr (0, [.int a1, .int a2, .int a3, .int a4, .int a5, .ref q1, .ref q2, .ref q3, .int 0, .int 1, .long a6, .long 0, .int 0, .long 0, .int 0])), (q1, .inl (g.2.1.1, 96, .inl (fun _ => 0))), (q2, .inl (g.2.1.1, 6, .inl (fun _ => 0))), (q3, .inl (g.2.1.2.2.2.2.2, 3, .inr (.inr (.inr (.inr (fun _ => none))))))] H := hP
  have hD : va_D A [(h0, .inr (0, [.int a1, .int a2, .int a3, .int a4, .int a5, .ref q1, .ref q2, .ref q3, .int 0, .int 1, .long a6, .long 0, .int 0, .long 0, .int 0])), (q1, .inl (g.2.1.1, 96, .inl (fun _ => 0))), (q2, .inl (g.2.1.1, 6, .inl (fun _ => 0))), (q3, .inl (g.2.1.2.2.2.2.2, 3, .inr (.inr (.inr (.inr (fun _ => none))))))] := hD
  refine lv_iconst (v := 0) hx hb dX0_init_66 (by decide) ?_
  refine lv_istore (lv' := [(8, .int 0), (0, .ref h0), (1, .int a1), (2, .int a2), (3, .int a3), (4, .int a4), (5, .int a5), (6, .long a6)]) hx hb dX0_init_67 hl (by decide) rfl (fun ls hl => ?_)
  refine lv_iload hx hb dX0_init_69 (lv_at hl 0 rfl) ?_
  refine lv_aload_n hx hb dX0_init_71 rfl (lv_at hl 1 rfl) ?_
  refine va_get (ci := 0) (v := .ref q2) (C := RX0) (T := TX0) (N := 15) hx hb C0.2.2.2.2 inX0_B C0.2.2.2.1 hK.1 hP 0 rfl rfl 6 (by decide) (C0.2.2.2.2 _ wFL_X0_15) (fun _ h9 => h9) rfl dX0_init_72 ?_
  refine va_alen hx hb hK.1 hP 2 0 rfl rfl (show Int32.ofNat 6 = 6 by decide) dX0_init_75 ?_
  refine lv_icmp_ge (tgt := 99) hx hb dX0_init_76 (by decide) (fun c9 => absurd c9 (by decide)) (fun _ => ?_)
  refine lv_aload_n hx hb dX0_init_79 rfl (lv_at hl 1 rfl) ?_
  refine va_get (ci := 0) (v := .ref q2) (C := RX0) (T := TX0) (N := 15) hx hb C0.2.2.2.2 inX0_B C0.2.2.2.1 hK.1 hP 0 rfl rfl 6 (by decide) (C0.2.2.2.2 _ wFL_X0_15) (fun _ h9 => h9) rfl dX0_init_80 ?_
  refine lv_iload hx hb dX0_init_83 (lv_at hl 0 rfl) ?_
  refine lv_bipush (v := 60) hx hb dX0_init_85 (by decide) ?_
  refine lv_iconst (v := 2) hx hb dX0_init_87 (by decide) ?_
  refine lv_iload hx hb dX0_init_88 (lv_at hl 0 rfl) ?_
  refine lv_imul hx hb dX0_init_90 ?_
  refine lv_iadd hx hb dX0_init_91 ?_
  refine va_iast hx hb hK.1 hP hD hS 2 0 rfl rfl (show vp_in 0 6 by unfold vp_in; decide) dX0_init_92 (fun H locs hP hD hS => ?_)
  have hP : va_P g.1 vwCl [(h0, .inr (0, [.int a1, .int a2, .int a3, .int a4, .int a5, .ref q1, .ref q2, .ref q3, .int 0, .int 1, .long a6, .long 0, .int 0, .long 0, .int 0])), (q1, .inl (g.2.1.1, 96, .inl (fun _ => 0))), (q2, .inl (g.2.1.1, 6, .inl (upd (fun _ => 0) (0 : Int32).toNatClampNeg (60 + (2 * 0))))), (q3, .inl (g.2.1.2.2.2.2.2, 3, .inr (.inr (.inr (.inr (fun _ => none))))))] H := hP
  have hD : va_D A [(h0, .inr (0, [.int a1, .int a2, .int a3, .int a4, .int a5, .ref q1, .ref q2, .ref q3, .int 0, .int 1, .long a6, .long 0, .int 0, .long 0, .int 0])), (q1, .inl (g.2.1.1, 96, .inl (fun _ => 0))), (q2, .inl (g.2.1.1, 6, .inl (upd (fun _ => 0) (0 : Int32).toNatClampNeg (60 + (2 * 0))))), (q3, .inl (g.2.1.2.2.2.2.2, 3, .inr (.inr (.inr (.inr (fun _ => none))))))] := hD
  refine lv_iinc (v := 1) (lv' := [(8, .int 1), (0, .ref h0), (1, .int a1), (2, .int a2), (3, .int a3), (4, .int a4), (5, .int a5), (6, .long a6)]) hx hb dX0_init_93 hl (k := 0) rfl (by decide) (by decide) rfl (fun ls hl => ?_)
  refine lv_goto (tgt := 69) hx hb dX0_init_96 (by decide) ?_
  refine lv_iload hx hb dX0_init_69 (lv_at hl 0 rfl) ?_
  refine lv_aload_n hx hb dX0_init_71 rfl (lv_at hl 1 rfl) ?_
  refine va_get (ci := 0) (v := .ref q2) (C := RX0) (T := TX0) (N := 15) hx hb C0.2.2.2.2 inX0_B C0.2.2.2.1 hK.1 hP 0 rfl rfl 6 (by decide) (C0.2.2.2.2 _ wFL_X0_15) (fun _ h9 => h9) rfl dX0_init_72 ?_
  refine va_alen hx hb hK.1 hP 2 0 rfl rfl (show Int32.ofNat 6 = 6 by decide) dX0_init_75 ?_
  refine lv_icmp_ge (tgt := 99) hx hb dX0_init_76 (by decide) (fun c9 => absurd c9 (by decide)) (fun _ => ?_)
  refine lv_aload_n hx hb dX0_init_79 rfl (lv_at hl 1 rfl) ?_
  refine va_get (ci := 0) (v := .ref q2) (C := RX0) (T := TX0) (N := 15) hx hb C0.2.2.2.2 inX0_B C0.2.2.2.1 hK.1 hP 0 rfl rfl 6 (by decide) (C0.2.2.2.2 _ wFL_X0_15) (fun _ h9 => h9) rfl dX0_init_80 ?_
  refine lv_iload hx hb dX0_init_83 (lv_at hl 0 rfl) ?_
  refine lv_bipush (v := 60) hx hb dX0_init_85 (by decide) ?_
  refine lv_iconst (v := 2) hx hb dX0_init_87 (by decide) ?_
  refine lv_iload hx hb dX0_init_88 (lv_at hl 0 rfl) ?_
  refine lv_imul hx hb dX0_init_90 ?_
  refine lv_iadd hx hb dX0_init_91 ?_
  refine va_iast hx hb hK.1 hP hD hS 2 0 rfl rfl (show vp_in 1 6 by unfold vp_in; decide) dX0_init_92 (fun H locs hP hD hS => ?_)
  have hP : va_P g.1 vwCl [(h0, .inr (0, [.int a1, .int a2, .int a3, .int a4, .int a5, .ref q1, .ref q2, .ref q3, .int 0, .int 1, .long a6, .long 0, .int 0, .long 0, .int 0])), (q1, .inl (g.2.1.1, 96, .inl (fun _ => 0))), (q2, .inl (g.2.1.1, 6, .inl (upd (upd (fun _ => 0) (0 : Int32).toNatClampNeg (60 + (2 * 0))) (1 : Int32).toNatClampNeg (60 + (2 * 1))))), (q3, .inl (g.2.1.2.2.2.2.2, 3, .inr (.inr (.inr (.inr (fun _ => none))))))] H := hP
  have hD : va_D A [(h0, .inr (0, [.int a1, .int a2, .int a3, .int a4, .int a5, .ref q1, .ref q2, .ref q3, .int 0, .int 1, .long a6, .long 0, .int 0, .long 0, .int 0])), (q1, .inl (g.2.1.1, 96, .inl (fun _ => 0))), (q2, .inl (g.2.1.1, 6, .inl (upd (upd (fun _ => 0) (0 : Int32).toNatClampNeg (60 + (2 * 0))) (1 : Int32).toNatClampNeg (60 + (2 * 1))))), (q3, .inl (g.2.1.2.2.2.2.2, 3, .inr (.inr (.inr (.inr (fun _ => none))))))] := hD
  refine lv_iinc (v := 2) (lv' := [(8, .int 2), (0, .ref h0), (1, .int a1), (2, .int a2), (3, .int a3), (4, .int a4), (5, .int a5), (6, .long a6)]) hx hb dX0_init_93 hl (k := 0) rfl (by decide) (by decide) rfl (fun ls hl => ?_)
  refine lv_goto (tgt := 69) hx hb dX0_init_96 (by decide) ?_
  refine lv_iload hx hb dX0_init_69 (lv_at hl 0 rfl) ?_
  refine lv_aload_n hx hb dX0_init_71 rfl (lv_at hl 1 rfl) ?_
  refine va_get (ci := 0) (v := .ref q2) (C := RX0) (T := TX0) (N := 15) hx hb C0.2.2.2.2 inX0_B C0.2.2.2.1 hK.1 hP 0 rfl rfl 6 (by decide) (C0.2.2.2.2 _ wFL_X0_15) (fun _ h9 => h9) rfl dX0_init_72 ?_
  refine va_alen hx hb hK.1 hP 2 0 rfl rfl (show Int32.ofNat 6 = 6 by decide) dX0_init_75 ?_
  refine lv_icmp_ge (tgt := 99) hx hb dX0_init_76 (by decide) (fun c9 => absurd c9 (by decide)) (fun _ => ?_)
  refine lv_aload_n hx hb dX0_init_79 rfl (lv_at hl 1 rfl) ?_
  refine va_get (ci := 0) (v := .ref q2) (C := RX0) (T := TX0) (N := 15) hx hb C0.2.2.2.2 inX0_B C0.2.2.2.1 hK.1 hP 0 rfl rfl 6 (by decide) (C0.2.2.2.2 _ wFL_X0_15) (fun _ h9 => h9) rfl dX0_init_80 ?_
  refine lv_iload hx hb dX0_init_83 (lv_at hl 0 rfl) ?_
  refine lv_bipush (v := 60) hx hb dX0_init_85 (by decide) ?_
  refine lv_iconst (v := 2) hx hb dX0_init_87 (by decide) ?_
  refine lv_iload hx hb dX0_init_88 (lv_at hl 0 rfl) ?_
  refine lv_imul hx hb dX0_init_90 ?_
  refine lv_iadd hx hb dX0_init_91 ?_
  refine va_iast hx hb hK.1 hP hD hS 2 0 rfl rfl (show vp_in 2 6 by unfold vp_in; decide) dX0_init_92 (fun H locs hP hD hS => ?_)
  have hP : va_P g.1 vwCl [(h0, .inr (0, [.int a1, .int a2, .int a3, .int a4, .int a5, .ref q1, .ref q2, .ref q3, .int 0, .int 1, .long a6, .long 0, .int 0, .long 0, .int 0])), (q1, .inl (g.2.1.1, 96, .inl (fun _ => 0))), (q2, .inl (g.2.1.1, 6, .inl (upd (upd (upd (fun _ => 0) (0 : Int32).toNatClampNeg (60 + (2 * 0))) (1 : Int32).toNatClampNeg (60 + (2 * 1))) (2 : Int32).toNatClampNeg (60 + (2 * 2))))), (q3, .inl (g.2.1.2.2.2.2.2, 3, .inr (.inr (.inr (.inr (fun _ => none))))))] H := hP
  have hD : va_D A [(h0, .inr (0, [.int a1, .int a2, .int a3, .int a4, .int a5, .ref q1, .ref q2, .ref q3, .int 0, .int 1, .long a6, .long 0, .int 0, .long 0, .int 0])), (q1, .inl (g.2.1.1, 96, .inl (fun _ => 0))), (q2, .inl (g.2.1.1, 6, .inl (upd (upd (upd (fun _ => 0) (0 : Int32).toNatClampNeg (60 + (2 * 0))) (1 : Int32).toNatClampNeg (60 + (2 * 1))) (2 : Int32).toNatClampNeg (60 + (2 * 2))))), (q3, .inl (g.2.1.2.2.2.2.2, 3, .inr (.inr (.inr (.inr (fun _ => none))))))] := hD
  refine lv_iinc (v := 3) (lv' := [(8, .int 3), (0, .ref h0), (1, .int a1), (2, .int a2), (3, .int a3), (4, .int a4), (5, .int a5), (6, .long a6)]) hx hb dX0_init_93 hl (k := 0) rfl (by decide) (by decide) rfl (fun ls hl => ?_)
  refine lv_goto (tgt := 69) hx hb dX0_init_96 (by decide) ?_
  refine lv_iload hx hb dX0_init_69 (lv_at hl 0 rfl) ?_
  refine lv_aload_n hx hb dX0_init_71 rfl (lv_at hl 1 rfl) ?_
  refine va_get (ci := 0) (v := .ref q2) (C := RX0) (T := TX0) (N := 15) hx hb C0.2.2.2.2 inX0_B C0.2.2.2.1 hK.1 hP 0 rfl rfl 6 (by decide) (C0.2.2.2.2 _ wFL_X0_15) (fun _ h9 => h9) rfl dX0_init_72 ?_
  refine va_alen hx hb hK.1 hP 2 0 rfl rfl (show Int32.ofNat 6 = 6 by decide) dX0_init_75 ?_
  refine lv_icmp_ge (tgt := 99) hx hb dX0_init_76 (by decide) (fun c9 => absurd c9 (by decide)) (fun _ => ?_)
  refine lv_aload_n hx hb dX0_init_79 rfl (lv_at hl 1 rfl) ?_
  refine va_get (ci := 0) (v := .ref q2) (C := RX0) (T := TX0) (N := 15) hx hb C0.2.2.2.2 inX0_B C0.2.2.2.1 hK.1 hP 0 rfl rfl 6 (by decide) (C0.2.2.2.2 _ wFL_X0_15) (fun _ h9 => h9) rfl dX0_init_80 ?_
  refine lv_iload hx hb dX0_init_83 (lv_at hl 0 rfl) ?_
  refine lv_bipush (v := 60) hx hb dX0_init_85 (by decide) ?_
  refine lv_iconst (v := 2) hx hb dX0_init_87 (by decide) ?_
  refine lv_iload hx hb dX0_init_88 (lv_at hl 0 rfl) ?_
  refine lv_imul hx hb dX0_init_90 ?_
  refine lv_iadd hx hb dX0_init_91 ?_
  refine va_iast hx hb hK.1 hP hD hS 2 0 rfl rfl (show vp_in 3 6 by unfold vp_in; decide) dX0_init_92 (fun H locs hP hD hS => ?_)
  have hP : va_P g.1 vwCl [(h0, .inr (0, [.int a1, .int a2, .int a3, .int a4, .int a5, .ref q1, .ref q2, .ref q3, .int 0, .int 1, .long a6, .long 0, .int 0, .long 0, .int 0])), (q1, .inl (g.2.1.1, 96, .inl (fun _ => 0))), (q2, .inl (g.2.1.1, 6, .inl (upd (upd (upd (upd (fun _ => 0) (0 : Int32).toNatClampNeg (60 + (2 * 0))) (1 : Int32).toNatClampNeg (60 + (2 * 1))) (2 : Int32).toNatClampNeg (60 + (2 * 2))) (3 : Int32).toNatClampNeg (60 + (2 * 3))))), (q3, .inl (g.2.1.2.2.2.2.2, 3, .inr (.inr (.inr (.inr (fun _ => none))))))] H := hP
  have hD : va_D A [(h0, .inr (0, [.int a1, .int a2, .int a3, .int a4, .int a5, .ref q1, .ref q2, .ref q3, .int 0, .int 1, .long a6, .long 0, .int 0, .long 0, .int 0])), (q1, .inl (g.2.1.1, 96, .inl (fun _ => 0))), (q2, .inl (g.2.1.1, 6, .inl (upd (upd (upd (upd (fun _ => 0) (0 : Int32).toNatClampNeg (60 + (2 * 0))) (1 : Int32).toNatClampNeg (60 + (2 * 1))) (2 : Int32).toNatClampNeg (60 + (2 * 2))) (3 : Int32).toNatClampNeg (60 + (2 * 3))))), (q3, .inl (g.2.1.2.2.2.2.2, 3, .inr (.inr (.inr (.inr (fun _ => none))))))] := hD
  refine lv_iinc (v := 4) (lv' := [(8, .int 4), (0, .ref h0), (1, .int a1), (2, .int a2), (3, .int a3), (4, .int a4), (5, .int a5), (6, .long a6)]) hx hb dX0_init_93 hl (k := 0) rfl (by decide) (by decide) rfl (fun ls hl => ?_)
  refine lv_goto (tgt := 69) hx hb dX0_init_96 (by decide) ?_
  refine lv_iload hx hb dX0_init_69 (lv_at hl 0 rfl) ?_
  refine lv_aload_n hx hb dX0_init_71 rfl (lv_at hl 1 rfl) ?_
  refine va_get (ci := 0) (v := .ref q2) (C := RX0) (T := TX0) (N := 15) hx hb C0.2.2.2.2 inX0_B C0.2.2.2.1 hK.1 hP 0 rfl rfl 6 (by decide) (C0.2.2.2.2 _ wFL_X0_15) (fun _ h9 => h9) rfl dX0_init_72 ?_
  refine va_alen hx hb hK.1 hP 2 0 rfl rfl (show Int32.ofNat 6 = 6 by decide) dX0_init_75 ?_
  refine lv_icmp_ge (tgt := 99) hx hb dX0_init_76 (by decide) (fun c9 => absurd c9 (by decide)) (fun _ => ?_)
  refine lv_aload_n hx hb dX0_init_79 rfl (lv_at hl 1 rfl) ?_
  refine va_get (ci := 0) (v := .ref q2) (C := RX0) (T := TX0) (N := 15) hx hb C0.2.2.2.2 inX0_B C0.2.2.2.1 hK.1 hP 0 rfl rfl 6 (by decide) (C0.2.2.2.2 _ wFL_X0_15) (fun _ h9 => h9) rfl dX0_init_80 ?_
  refine lv_iload hx hb dX0_init_83 (lv_at hl 0 rfl) ?_
  refine lv_bipush (v := 60) hx hb dX0_init_85 (by decide) ?_
  refine lv_iconst (v := 2) hx hb dX0_init_87 (by decide) ?_
  refine lv_iload hx hb dX0_init_88 (lv_at hl 0 rfl) ?_
  refine lv_imul hx hb dX0_init_90 ?_
  refine lv_iadd hx hb dX0_init_91 ?_
  refine va_iast hx hb hK.1 hP hD hS 2 0 rfl rfl (show vp_in 4 6 by unfold vp_in; decide) dX0_init_92 (fun H locs hP hD hS => ?_)
  have hP : va_P g.1 vwCl [(h0, .inr (0, [.int a1, .int a2, .int a3, .int a4, .int a5, .ref q1, .ref q2, .ref q3, .int 0, .int 1, .long a6, .long 0, .int 0, .long 0, .int 0])), (q1, .inl (g.2.1.1, 96, .inl (fun _ => 0))), (q2, .inl (g.2.1.1, 6, .inl (upd (upd (upd (upd (upd (fun _ => 0) (0 : Int32).toNatClampNeg (60 + (2 * 0))) (1 : Int32).toNatClampNeg (60 + (2 * 1))) (2 : Int32).toNatClampNeg (60 + (2 * 2))) (3 : Int32).toNatClampNeg (60 + (2 * 3))) (4 : Int32).toNatClampNeg (60 + (2 * 4))))), (q3, .inl (g.2.1.2.2.2.2.2, 3, .inr (.inr (.inr (.inr (fun _ => none))))))] H := hP
  have hD : va_D A [(h0, .inr (0, [.int a1, .int a2, .int a3, .int a4, .int a5, .ref q1, .ref q2, .ref q3, .int 0, .int 1, .long a6, .long 0, .int 0, .long 0, .int 0])), (q1, .inl (g.2.1.1, 96, .inl (fun _ => 0))), (q2, .inl (g.2.1.1, 6, .inl (upd (upd (upd (upd (upd (fun _ => 0) (0 : Int32).toNatClampNeg (60 + (2 * 0))) (1 : Int32).toNatClampNeg (60 + (2 * 1))) (2 : Int32).toNatClampNeg (60 + (2 * 2))) (3 : Int32).toNatClampNeg (60 + (2 * 3))) (4 : Int32).toNatClampNeg (60 + (2 * 4))))), (q3, .inl (g.2.1.2.2.2.2.2, 3, .inr (.inr (.inr (.inr (fun _ => none))))))] := hD
  refine lv_iinc (v := 5) (lv' := [(8, .int 5), (0, .ref h0), (1, .int a1), (2, .int a2), (3, .int a3), (4, .int a4), (5, .int a5), (6, .long a6)]) hx hb dX0_init_93 hl (k := 0) rfl (by decide) (by decide) rfl (fun ls hl => ?_)
  refine lv_goto (tgt := 69) hx hb dX0_init_96 (by decide) ?_
  refine lv_iload hx hb dX0_init_69 (lv_at hl 0 rfl) ?_
  refine lv_aload_n hx hb dX0_init_71 rfl (lv_at hl 1 rfl) ?_
  refine va_get (ci := 0) (v := .ref q2) (C := RX0) (T := TX0) (N := 15) hx hb C0.2.2.2.2 inX0_B C0.2.2.2.1 hK.1 hP 0 rfl rfl 6 (by decide) (C0.2.2.2.2 _ wFL_X0_15) (fun _ h9 => h9) rfl dX0_init_72 ?_
  refine va_alen hx hb hK.1 hP 2 0 rfl rfl (show Int32.ofNat 6 = 6 by decide) dX0_init_75 ?_
  refine lv_icmp_ge (tgt := 99) hx hb dX0_init_76 (by decide) (fun c9 => absurd c9 (by decide)) (fun _ => ?_)
  refine lv_aload_n hx hb dX0_init_79 rfl (lv_at hl 1 rfl) ?_
  refine va_get (ci := 0) (v := .ref q2) (C := RX0) (T := TX0) (N := 15) hx hb C0.2.2.2.2 inX0_B C0.2.2.2.1 hK.1 hP 0 rfl rfl 6 (by decide) (C0.2.2.2.2 _ wFL_X0_15) (fun _ h9 => h9) rfl dX0_init_80 ?_
  refine lv_iload hx hb dX0_init_83 (lv_at hl 0 rfl) ?_
  refine lv_bipush (v := 60) hx hb dX0_init_85 (by decide) ?_
  refine lv_iconst (v := 2) hx hb dX0_init_87 (by decide) ?_
  refine lv_iload hx hb dX0_init_88 (lv_at hl 0 rfl) ?_
  refine lv_imul hx hb dX0_init_90 ?_
  refine lv_iadd hx hb dX0_init_91 ?_
  refine va_iast hx hb hK.1 hP hD hS 2 0 rfl rfl (show vp_in 5 6 by unfold vp_in; decide) dX0_init_92 (fun H locs hP hD hS => ?_)
  have hP : va_P g.1 vwCl [(h0, .inr (0, [.int a1, .int a2, .int a3, .int a4, .int a5, .ref q1, .ref q2, .ref q3, .int 0, .int 1, .long a6, .long 0, .int 0, .long 0, .int 0])), (q1, .inl (g.2.1.1, 96, .inl (fun _ => 0))), (q2, .inl (g.2.1.1, 6, .inl (upd (upd (upd (upd (upd (upd (fun _ => 0) (0 : Int32).toNatClampNeg (60 + (2 * 0))) (1 : Int32).toNatClampNeg (60 + (2 * 1))) (2 : Int32).toNatClampNeg (60 + (2 * 2))) (3 : Int32).toNatClampNeg (60 + (2 * 3))) (4 : Int32).toNatClampNeg (60 + (2 * 4))) (5 : Int32).toNatClampNeg (60 + (2 * 5))))), (q3, .inl (g.2.1.2.2.2.2.2, 3, .inr (.inr (.inr (.inr (fun _ => none))))))] H := hP
  have hD : va_D A [(h0, .inr (0, [.int a1, .int a2, .int a3, .int a4, .int a5, .ref q1, .ref q2, .ref q3, .int 0, .int 1, .long a6, .long 0, .int 0, .long 0, .int 0])), (q1, .inl (g.2.1.1, 96, .inl (fun _ => 0))), (q2, .inl (g.2.1.1, 6, .inl (upd (upd (upd (upd (upd (upd (fun _ => 0) (0 : Int32).toNatClampNeg (60 + (2 * 0))) (1 : Int32).toNatClampNeg (60 + (2 * 1))) (2 : Int32).toNatClampNeg (60 + (2 * 2))) (3 : Int32).toNatClampNeg (60 + (2 * 3))) (4 : Int32).toNatClampNeg (60 + (2 * 4))) (5 : Int32).toNatClampNeg (60 + (2 * 5))))), (q3, .inl (g.2.1.2.2.2.2.2, 3, .inr (.inr (.inr (.inr (fun _ => none))))))] := hD
  refine lv_iinc (v := 6) (lv' := [(8, .int 6), (0, .ref h0), (1, .int a1), (2, .int a2), (3, .int a3), (4, .int a4), (5, .int a5), (6, .long a6)]) hx hb dX0_init_93 hl (k := 0) rfl (by decide) (by decide) rfl (fun ls hl => ?_)
  refine lv_goto (tgt := 69) hx hb dX0_init_96 (by decide) ?_
  refine lv_iload hx hb dX0_init_69 (lv_at hl 0 rfl) ?_
  refine lv_aload_n hx hb dX0_init_71 rfl (lv_at hl 1 rfl) ?_
  refine va_get (ci := 0) (v := .ref q2) (C := RX0) (T := TX0) (N := 15) hx hb C0.2.2.2.2 inX0_B C0.2.2.2.1 hK.1 hP 0 rfl rfl 6 (by decide) (C0.2.2.2.2 _ wFL_X0_15) (fun _ h9 => h9) rfl dX0_init_72 ?_
  refine va_alen hx hb hK.1 hP 2 0 rfl rfl (show Int32.ofNat 6 = 6 by decide) dX0_init_75 ?_
  refine lv_icmp_ge (tgt := 99) hx hb dX0_init_76 (by decide) (fun _ => ?_) (fun c9 => absurd (by decide) c9)
  refine lv_iconst (v := 0) hx hb dX0_init_99 (by decide) ?_
  refine lv_istore (lv' := [(8, .int 0), (0, .ref h0), (1, .int a1), (2, .int a2), (3, .int a3), (4, .int a4), (5, .int a5), (6, .long a6)]) hx hb dX0_init_100 hl (by decide) rfl (fun ls hl => ?_)
  refine lv_iload hx hb dX0_init_102 (lv_at hl 0 rfl) ?_
  refine lv_aload_n hx hb dX0_init_104 rfl (lv_at hl 1 rfl) ?_
  refine va_get (ci := 0) (v := .ref q3) (C := RX0) (T := TX0) (N := 15) hx hb C0.2.2.2.2 inX0_B C0.2.2.2.1 hK.1 hP 0 rfl rfl 7 (by decide) (C0.2.2.2.2 _ wFL_X0_20) (fun _ h9 => h9) rfl dX0_init_105 ?_
  refine va_alen hx hb hK.1 hP 3 5 rfl rfl (show Int32.ofNat 3 = 3 by decide) dX0_init_108 ?_
  refine lv_icmp_ge (tgt := 132) hx hb dX0_init_109 (by decide) (fun c9 => absurd c9 (by decide)) (fun _ => ?_)
  refine lv_aload_n hx hb dX0_init_112 rfl (lv_at hl 1 rfl) ?_
  refine va_get (ci := 0) (v := .ref q3) (C := RX0) (T := TX0) (N := 15) hx hb C0.2.2.2.2 inX0_B C0.2.2.2.1 hK.1 hP 0 rfl rfl 7 (by decide) (C0.2.2.2.2 _ wFL_X0_20) (fun _ h9 => h9) rfl dX0_init_113 ?_
  refine lv_iload hx hb dX0_init_116 (lv_at hl 0 rfl) ?_
  refine va_new (A := A) (ci := 1) (fs := [.null, .null, .int 0]) (C := RX1) (T := TX1) (N := 3) hx hb C0.2.2.2.2 inX1_B tyX1 tyX1_ok C0.2.2.2.1 (C0.2.2.2.2 _ wCL_X0_18) (C0.2.2.2.2 _ wIS_X1) (C0.2.2.2.2 _ wIN_X1) hK.1 hP hD hS hA rfl (fun j hj => by rcases (show j = 0 ∨ j = 1 ∨ j = 2 by omega) with rfl | rfl | rfl <;> rfl) (Nat.le_of_ble_eq_true rfl) (Nat.le_of_ble_eq_true rfl) dX0_init_118 (fun q4 H hP hD hS => ?_)
  have hP : va_P g.1 vwCl [(h0, .inr (0, [.int a1, .int a2, .int a3, .int a4, .int a5, .ref q1, .ref q2, .ref q3, .int 0, .int 1, .long a6, .long 0, .int 0, .long 0, .int 0])), (q1, .inl (g.2.1.1, 96, .inl (fun _ => 0))), (q2, .inl (g.2.1.1, 6, .inl (upd (upd (upd (upd (upd (upd (fun _ => 0) (0 : Int32).toNatClampNeg (60 + (2 * 0))) (1 : Int32).toNatClampNeg (60 + (2 * 1))) (2 : Int32).toNatClampNeg (60 + (2 * 2))) (3 : Int32).toNatClampNeg (60 + (2 * 3))) (4 : Int32).toNatClampNeg (60 + (2 * 4))) (5 : Int32).toNatClampNeg (60 + (2 * 5))))), (q3, .inl (g.2.1.2.2.2.2.2, 3, .inr (.inr (.inr (.inr (fun _ => none)))))), (q4, .inr (1, [.null, .null, .int 0]))] H := hP
  have hD : va_D A [(h0, .inr (0, [.int a1, .int a2, .int a3, .int a4, .int a5, .ref q1, .ref q2, .ref q3, .int 0, .int 1, .long a6, .long 0, .int 0, .long 0, .int 0])), (q1, .inl (g.2.1.1, 96, .inl (fun _ => 0))), (q2, .inl (g.2.1.1, 6, .inl (upd (upd (upd (upd (upd (upd (fun _ => 0) (0 : Int32).toNatClampNeg (60 + (2 * 0))) (1 : Int32).toNatClampNeg (60 + (2 * 1))) (2 : Int32).toNatClampNeg (60 + (2 * 2))) (3 : Int32).toNatClampNeg (60 + (2 * 3))) (4 : Int32).toNatClampNeg (60 + (2 * 4))) (5 : Int32).toNatClampNeg (60 + (2 * 5))))), (q3, .inl (g.2.1.2.2.2.2.2, 3, .inr (.inr (.inr (.inr (fun _ => none)))))), (q4, .inr (1, [.null, .null, .int 0]))] := hD
  refine lv_dup hx hb dX0_init_121 rfl ?_
  have hPc := hP.sub (ws' := [(q4, .inr (1, [.null, .null, .int 0]))]) [4] rfl
  have hDc := hD.sub (ws' := [(q4, .inr (1, [.null, .null, .int 0]))]) [4] (by decide) rfl
  have hFc := va_free (wc := [(q4, .inr (1, [.null, .null, .int 0]))]) hD hS hA [4] rfl
  refine va_callv (va_runIN (As := []) (rest := [.ref q4, .int 0, .ref q3]) (host := "BirdParlour") C0 (kX1_init l g q4 H.size) ⟨va_cnB 0 C0.2.2.2.2 (ws_good wCO_X1_init) rfl rfl rfl (hK.2.1 (RX0, 48, yX1_init, "BirdParlour") (by decide +kernel)) (C0.2.2.2.2 _ wIN_X1) hdiX1_init ⟨(Nat.le_of_ble_eq_true rfl), (Nat.le_of_ble_eq_true rfl)⟩, rfl, C0.2.2.2.2 _ wIM_X1_init⟩ ⟨WL.blind, fun U hU hw => ⟨rfl, by rw [hU], by rw [hU]; exact hPc, hDc.weaken (fun _ _ _ _ => trivial), hK.warm hw⟩⟩ rfl rfl hl.1 rfl (lv_room (Nat.le_of_ble_eq_true rfl)) dX0_init_122 ⟨(Nat.le_of_ble_eq_true rfl), (Nat.le_of_ble_eq_true rfl)⟩) hS (fun q _ h => hFc q h) hFc (fun u5 t H1 locs ht hvm hw hB hz1 hk1 hS => ?_)
  obtain ⟨hP1, hD1⟩ := hB
  rw [ht] at hP1
  obtain ⟨hP, hD⟩ := va_join (wr := [(h0, .inr (0, [.int a1, .int a2, .int a3, .int a4, .int a5, .ref q1, .ref q2, .ref q3, .int 0, .int 1, .long a6, .long 0, .int 0, .long 0, .int 0])), (q1, .inl (g.2.1.1, 96, .inl (fun _ => 0))), (q2, .inl (g.2.1.1, 6, .inl (upd (upd (upd (upd (upd (upd (fun _ => 0) (0 : Int32).toNatClampNeg (60 + (2 * 0))) (1 : Int32).toNatClampNeg (60 + (2 * 1))) (2 : Int32).toNatClampNeg (60 + (2 * 2))) (3 : Int32).toNatClampNeg (60 + (2 * 3))) (4 : Int32).toNatClampNeg (60 + (2 * 4))) (5 : Int32).toNatClampNeg (60 + (2 * 5))))), (q3, .inl (g.2.1.2.2.2.2.2, 3, .inr (.inr (.inr (.inr (fun _ => none))))))]) (w1 := [(q4, .inr (1, [.ref (u5 0), .ref (u5 1), .int 0])), ((u5 0), .inl (g.2.1.1, 96, .inl (fun _ => 0))), ((u5 1), .inl (g.2.1.1, 96, .inl (fun _ => 0)))]) hP hD [4] [0, 1, 2, 3] rfl rfl (by decide) (by decide) hk1 hFc hP1 hD1
  generalize H1 = H at hP hS ⊢
  have hP : va_P g.1 vwCl [(h0, .inr (0, [.int a1, .int a2, .int a3, .int a4, .int a5, .ref q1, .ref q2, .ref q3, .int 0, .int 1, .long a6, .long 0, .int 0, .long 0, .int 0])), (q1, .inl (g.2.1.1, 96, .inl (fun _ => 0))), (q2, .inl (g.2.1.1, 6, .inl (upd (upd (upd (upd (upd (upd (fun _ => 0) (0 : Int32).toNatClampNeg (60 + (2 * 0))) (1 : Int32).toNatClampNeg (60 + (2 * 1))) (2 : Int32).toNatClampNeg (60 + (2 * 2))) (3 : Int32).toNatClampNeg (60 + (2 * 3))) (4 : Int32).toNatClampNeg (60 + (2 * 4))) (5 : Int32).toNatClampNeg (60 + (2 * 5))))), (q3, .inl (g.2.1.2.2.2.2.2, 3, .inr (.inr (.inr (.inr (fun _ => none)))))), (q4, .inr (1, [.ref (u5 0), .ref (u5 1), .int 0])), ((u5 0), .inl (g.2.1.1, 96, .inl (fun _ => 0))), ((u5 1), .inl (g.2.1.1, 96, .inl (fun _ => 0)))] H := hP
  have hD : va_D A [(h0, .inr (0, [.int a1, .int a2, .int a3, .int a4, .int a5, .ref q1, .ref q2, .ref q3, .int 0, .int 1, .long a6, .long 0, .int 0, .long 0, .int 0])), (q1, .inl (g.2.1.1, 96, .inl (fun _ => 0))), (q2, .inl (g.2.1.1, 6, .inl (upd (upd (upd (upd (upd (upd (fun _ => 0) (0 : Int32).toNatClampNeg (60 + (2 * 0))) (1 : Int32).toNatClampNeg (60 + (2 * 1))) (2 : Int32).toNatClampNeg (60 + (2 * 2))) (3 : Int32).toNatClampNeg (60 + (2 * 3))) (4 : Int32).toNatClampNeg (60 + (2 * 4))) (5 : Int32).toNatClampNeg (60 + (2 * 5))))), (q3, .inl (g.2.1.2.2.2.2.2, 3, .inr (.inr (.inr (.inr (fun _ => none)))))), (q4, .inr (1, [.ref (u5 0), .ref (u5 1), .int 0])), ((u5 0), .inl (g.2.1.1, 96, .inl (fun _ => 0))), ((u5 1), .inl (g.2.1.1, 96, .inl (fun _ => 0)))] := hD
  refine va_astq hx hb hK.1 hP hD hS 3 5 4 1 rfl rfl rfl rfl (show vp_in 0 3 by unfold vp_in; decide) dX0_init_125 (fun H locs hP hD hS => ?_)
  have hP : va_P g.1 vwCl [(h0, .inr (0, [.int a1, .int a2, .int a3, .int a4, .int a5, .ref q1, .ref q2, .ref q3, .int 0, .int 1, .long a6, .long 0, .int 0, .long 0, .int 0])), (q1, .inl (g.2.1.1, 96, .inl (fun _ => 0))), (q2, .inl (g.2.1.1, 6, .inl (upd (upd (upd (upd (upd (upd (fun _ => 0) (0 : Int32).toNatClampNeg (60 + (2 * 0))) (1 : Int32).toNatClampNeg (60 + (2 * 1))) (2 : Int32).toNatClampNeg (60 + (2 * 2))) (3 : Int32).toNatClampNeg (60 + (2 * 3))) (4 : Int32).toNatClampNeg (60 + (2 * 4))) (5 : Int32).toNatClampNeg (60 + (2 * 5))))), (q3, .inl (g.2.1.2.2.2.2.2, 3, .inr (.inr (.inr (.inr (va_up (fun _ => none) (0 : Int32).toNatClampNeg (some q4))))))), (q4, .inr (1, [.ref (u5 0), .ref (u5 1), .int 0])), ((u5 0), .inl (g.2.1.1, 96, .inl (fun _ => 0))), ((u5 1), .inl (g.2.1.1, 96, .inl (fun _ => 0)))] H := hP
  have hD : va_D A [(h0, .inr (0, [.int a1, .int a2, .int a3, .int a4, .int a5, .ref q1, .ref q2, .ref q3, .int 0, .int 1, .long a6, .long 0, .int 0, .long 0, .int 0])), (q1, .inl (g.2.1.1, 96, .inl (fun _ => 0))), (q2, .inl (g.2.1.1, 6, .inl (upd (upd (upd (upd (upd (upd (fun _ => 0) (0 : Int32).toNatClampNeg (60 + (2 * 0))) (1 : Int32).toNatClampNeg (60 + (2 * 1))) (2 : Int32).toNatClampNeg (60 + (2 * 2))) (3 : Int32).toNatClampNeg (60 + (2 * 3))) (4 : Int32).toNatClampNeg (60 + (2 * 4))) (5 : Int32).toNatClampNeg (60 + (2 * 5))))), (q3, .inl (g.2.1.2.2.2.2.2, 3, .inr (.inr (.inr (.inr (va_up (fun _ => none) (0 : Int32).toNatClampNeg (some q4))))))), (q4, .inr (1, [.ref (u5 0), .ref (u5 1), .int 0])), ((u5 0), .inl (g.2.1.1, 96, .inl (fun _ => 0))), ((u5 1), .inl (g.2.1.1, 96, .inl (fun _ => 0)))] := hD
  refine lv_iinc (v := 1) (lv' := [(8, .int 1), (0, .ref h0), (1, .int a1), (2, .int a2), (3, .int a3), (4, .int a4), (5, .int a5), (6, .long a6)]) hx hb dX0_init_126 hl (k := 0) rfl (by decide) (by decide) rfl (fun ls hl => ?_)
  refine lv_goto (tgt := 102) hx hb dX0_init_129 (by decide) ?_
  refine lv_iload hx hb dX0_init_102 (lv_at hl 0 rfl) ?_
  refine lv_aload_n hx hb dX0_init_104 rfl (lv_at hl 1 rfl) ?_
  refine va_get (ci := 0) (v := .ref q3) (C := RX0) (T := TX0) (N := 15) hx hb C0.2.2.2.2 inX0_B C0.2.2.2.1 hK.1 hP 0 rfl rfl 7 (by decide) (C0.2.2.2.2 _ wFL_X0_20) (fun _ h9 => h9) rfl dX0_init_105 ?_
  refine va_alen hx hb hK.1 hP 3 5 rfl rfl (show Int32.ofNat 3 = 3 by decide) dX0_init_108 ?_
  refine lv_icmp_ge (tgt := 132) hx hb dX0_init_109 (by decide) (fun c9 => absurd c9 (by decide)) (fun _ => ?_)
  refine lv_aload_n hx hb dX0_init_112 rfl (lv_at hl 1 rfl) ?_
  refine va_get (ci := 0) (v := .ref q3) (C := RX0) (T := TX0) (N := 15) hx hb C0.2.2.2.2 inX0_B C0.2.2.2.1 hK.1 hP 0 rfl rfl 7 (by decide) (C0.2.2.2.2 _ wFL_X0_20) (fun _ h9 => h9) rfl dX0_init_113 ?_
  refine lv_iload hx hb dX0_init_116 (lv_at hl 0 rfl) ?_
  refine va_new (A := A) (ci := 1) (fs := [.null, .null, .int 0]) (C := RX1) (T := TX1) (N := 3) hx hb C0.2.2.2.2 inX1_B tyX1 tyX1_ok C0.2.2.2.1 (C0.2.2.2.2 _ wCL_X0_18) (C0.2.2.2.2 _ wIS_X1) (C0.2.2.2.2 _ wIN_X1) hK.1 hP hD hS hA rfl (fun j hj => by rcases (show j = 0 ∨ j = 1 ∨ j = 2 by omega) with rfl | rfl | rfl <;> rfl) (Nat.le_of_ble_eq_true rfl) (Nat.le_of_ble_eq_true rfl) dX0_init_118 (fun q6 H hP hD hS => ?_)
  have hP : va_P g.1 vwCl [(h0, .inr (0, [.int a1, .int a2, .int a3, .int a4, .int a5, .ref q1, .ref q2, .ref q3, .int 0, .int 1, .long a6, .long 0, .int 0, .long 0, .int 0])), (q1, .inl (g.2.1.1, 96, .inl (fun _ => 0))), (q2, .inl (g.2.1.1, 6, .inl (upd (upd (upd (upd (upd (upd (fun _ => 0) (0 : Int32).toNatClampNeg (60 + (2 * 0))) (1 : Int32).toNatClampNeg (60 + (2 * 1))) (2 : Int32).toNatClampNeg (60 + (2 * 2))) (3 : Int32).toNatClampNeg (60 + (2 * 3))) (4 : Int32).toNatClampNeg (60 + (2 * 4))) (5 : Int32).toNatClampNeg (60 + (2 * 5))))), (q3, .inl (g.2.1.2.2.2.2.2, 3, .inr (.inr (.inr (.inr (va_up (fun _ => none) (0 : Int32).toNatClampNeg (some q4))))))), (q4, .inr (1, [.ref (u5 0), .ref (u5 1), .int 0])), ((u5 0), .inl (g.2.1.1, 96, .inl (fun _ => 0))), ((u5 1), .inl (g.2.1.1, 96, .inl (fun _ => 0))), (q6, .inr (1, [.null, .null, .int 0]))] H := hP
  have hD : va_D A [(h0, .inr (0, [.int a1, .int a2, .int a3, .int a4, .int a5, .ref q1, .ref q2, .ref q3, .int 0, .int 1, .long a6, .long 0, .int 0, .long 0, .int 0])), (q1, .inl (g.2.1.1, 96, .inl (fun _ => 0))), (q2, .inl (g.2.1.1, 6, .inl (upd (upd (upd (upd (upd (upd (fun _ => 0) (0 : Int32).toNatClampNeg (60 + (2 * 0))) (1 : Int32).toNatClampNeg (60 + (2 * 1))) (2 : Int32).toNatClampNeg (60 + (2 * 2))) (3 : Int32).toNatClampNeg (60 + (2 * 3))) (4 : Int32).toNatClampNeg (60 + (2 * 4))) (5 : Int32).toNatClampNeg (60 + (2 * 5))))), (q3, .inl (g.2.1.2.2.2.2.2, 3, .inr (.inr (.inr (.inr (va_up (fun _ => none) (0 : Int32).toNatClampNeg (some q4))))))), (q4, .inr (1, [.ref (u5 0), .ref (u5 1), .int 0])), ((u5 0), .inl (g.2.1.1, 96, .inl (fun _ => 0))), ((u5 1), .inl (g.2.1.1, 96, .inl (fun _ => 0))), (q6, .inr (1, [.null, .null, .int 0]))] := hD
  refine lv_dup hx hb dX0_init_121 rfl ?_
  have hPc := hP.sub (ws' := [(q6, .inr (1, [.null, .null, .int 0]))]) [7] rfl
  have hDc := hD.sub (ws' := [(q6, .inr (1, [.null, .null, .int 0]))]) [7] (by decide) rfl
  have hFc := va_free (wc := [(q6, .inr (1, [.null, .null, .int 0]))]) hD hS hA [7] rfl
  refine va_callv (va_runIN (As := []) (rest := [.ref q6, .int 1, .ref q3]) (host := "BirdParlour") C0 (kX1_init l g q6 H.size) ⟨va_cnB 0 C0.2.2.2.2 (ws_good wCO_X1_init) rfl rfl rfl (hK.2.1 (RX0, 48, yX1_init, "BirdParlour") (by decide +kernel)) (C0.2.2.2.2 _ wIN_X1) hdiX1_init ⟨(Nat.le_of_ble_eq_true rfl), (Nat.le_of_ble_eq_true rfl)⟩, rfl, C0.2.2.2.2 _ wIM_X1_init⟩ ⟨WL.blind, fun U hU hw => ⟨rfl, by rw [hU], by rw [hU]; exact hPc, hDc.weaken (fun _ _ _ _ => trivial), hK.warm hw⟩⟩ rfl rfl hl.1 rfl (lv_room (Nat.le_of_ble_eq_true rfl)) dX0_init_122 ⟨(Nat.le_of_ble_eq_true rfl), (Nat.le_of_ble_eq_true rfl)⟩) hS (fun q _ h => hFc q h) hFc (fun u7 t H1 locs ht hvm hw hB hz1 hk1 hS => ?_)
  obtain ⟨hP1, hD1⟩ := hB
  rw [ht] at hP1
  obtain ⟨hP, hD⟩ := va_join (wr := [(h0, .inr (0, [.int a1, .int a2, .int a3, .int a4, .int a5, .ref q1, .ref q2, .ref q3, .int 0, .int 1, .long a6, .long 0, .int 0, .long 0, .int 0])), (q1, .inl (g.2.1.1, 96, .inl (fun _ => 0))), (q2, .inl (g.2.1.1, 6, .inl (upd (upd (upd (upd (upd (upd (fun _ => 0) (0 : Int32).toNatClampNeg (60 + (2 * 0))) (1 : Int32).toNatClampNeg (60 + (2 * 1))) (2 : Int32).toNatClampNeg (60 + (2 * 2))) (3 : Int32).toNatClampNeg (60 + (2 * 3))) (4 : Int32).toNatClampNeg (60 + (2 * 4))) (5 : Int32).toNatClampNeg (60 + (2 * 5))))), (q3, .inl (g.2.1.2.2.2.2.2, 3, .inr (.inr (.inr (.inr (va_up (fun _ => none) (0 : Int32).toNatClampNeg (some q4))))))), (q4, .inr (1, [.ref (u5 0), .ref (u5 1), .int 0])), ((u5 0), .inl (g.2.1.1, 96, .inl (fun _ => 0))), ((u5 1), .inl (g.2.1.1, 96, .inl (fun _ => 0)))]) (w1 := [(q6, .inr (1, [.ref (u7 0), .ref (u7 1), .int 0])), ((u7 0), .inl (g.2.1.1, 96, .inl (fun _ => 0))), ((u7 1), .inl (g.2.1.1, 96, .inl (fun _ => 0)))]) hP hD [7] [0, 1, 2, 3, 4, 5, 6] rfl rfl (by decide) (by decide) hk1 hFc hP1 hD1
  generalize H1 = H at hP hS ⊢
  have hP : va_P g.1 vwCl [(h0, .inr (0, [.int a1, .int a2, .int a3, .int a4, .int a5, .ref q1, .ref q2, .ref q3, .int 0, .int 1, .long a6, .long 0, .int 0, .long 0, .int 0])), (q1, .inl (g.2.1.1, 96, .inl (fun _ => 0))), (q2, .inl (g.2.1.1, 6, .inl (upd (upd (upd (upd (upd (upd (fun _ => 0) (0 : Int32).toNatClampNeg (60 + (2 * 0))) (1 : Int32).toNatClampNeg (60 + (2 * 1))) (2 : Int32).toNatClampNeg (60 + (2 * 2))) (3 : Int32).toNatClampNeg (60 + (2 * 3))) (4 : Int32).toNatClampNeg (60 + (2 * 4))) (5 : Int32).toNatClampNeg (60 + (2 * 5))))), (q3, .inl (g.2.1.2.2.2.2.2, 3, .inr (.inr (.inr (.inr (va_up (fun _ => none) (0 : Int32).toNatClampNeg (some q4))))))), (q4, .inr (1, [.ref (u5 0), .ref (u5 1), .int 0])), ((u5 0), .inl (g.2.1.1, 96, .inl (fun _ => 0))), ((u5 1), .inl (g.2.1.1, 96, .inl (fun _ => 0))), (q6, .inr (1, [.ref (u7 0), .ref (u7 1), .int 0])), ((u7 0), .inl (g.2.1.1, 96, .inl (fun _ => 0))), ((u7 1), .inl (g.2.1.1, 96, .inl (fun _ => 0)))] H := hP
  have hD : va_D A [(h0, .inr (0, [.int a1, .int a2, .int a3, .int a4, .int a5, .ref q1, .ref q2, .ref q3, .int 0, .int 1, .long a6, .long 0, .int 0, .long 0, .int 0])), (q1, .inl (g.2.1.1, 96, .inl (fun _ => 0))), (q2, .inl (g.2.1.1, 6, .inl (upd (upd (upd (upd (upd (upd (fun _ => 0) (0 : Int32).toNatClampNeg (60 + (2 * 0))) (1 : Int32).toNatClampNeg (60 + (2 * 1))) (2 : Int32).toNatClampNeg (60 + (2 * 2))) (3 : Int32).toNatClampNeg (60 + (2 * 3))) (4 : Int32).toNatClampNeg (60 + (2 * 4))) (5 : Int32).toNatClampNeg (60 + (2 * 5))))), (q3, .inl (g.2.1.2.2.2.2.2, 3, .inr (.inr (.inr (.inr (va_up (fun _ => none) (0 : Int32).toNatClampNeg (some q4))))))), (q4, .inr (1, [.ref (u5 0), .ref (u5 1), .int 0])), ((u5 0), .inl (g.2.1.1, 96, .inl (fun _ => 0))), ((u5 1), .inl (g.2.1.1, 96, .inl (fun _ => 0))), (q6, .inr (1, [.ref (u7 0), .ref (u7 1), .int 0])), ((u7 0), .inl (g.2.1.1, 96, .inl (fun _ => 0))), ((u7 1), .inl (g.2.1.1, 96, .inl (fun _ => 0)))] := hD
  refine va_astq hx hb hK.1 hP hD hS 3 5 7 1 rfl rfl rfl rfl (show vp_in 1 3 by unfold vp_in; decide) dX0_init_125 (fun H locs hP hD hS => ?_)
  have hP : va_P g.1 vwCl [(h0, .inr (0, [.int a1, .int a2, .int a3, .int a4, .int a5, .ref q1, .ref q2, .ref q3, .int 0, .int 1, .long a6, .long 0, .int 0, .long 0, .int 0])), (q1, .inl (g.2.1.1, 96, .inl (fun _ => 0))), (q2, .inl (g.2.1.1, 6, .inl (upd (upd (upd (upd (upd (upd (fun _ => 0) (0 : Int32).toNatClampNeg (60 + (2 * 0))) (1 : Int32).toNatClampNeg (60 + (2 * 1))) (2 : Int32).toNatClampNeg (60 + (2 * 2))) (3 : Int32).toNatClampNeg (60 + (2 * 3))) (4 : Int32).toNatClampNeg (60 + (2 * 4))) (5 : Int32).toNatClampNeg (60 + (2 * 5))))), (q3, .inl (g.2.1.2.2.2.2.2, 3, .inr (.inr (.inr (.inr (va_up (va_up (fun _ => none) (0 : Int32).toNatClampNeg (some q4)) (1 : Int32).toNatClampNeg (some q6))))))), (q4, .inr (1, [.ref (u5 0), .ref (u5 1), .int 0])), ((u5 0), .inl (g.2.1.1, 96, .inl (fun _ => 0))), ((u5 1), .inl (g.2.1.1, 96, .inl (fun _ => 0))), (q6, .inr (1, [.ref (u7 0), .ref (u7 1), .int 0])), ((u7 0), .inl (g.2.1.1, 96, .inl (fun _ => 0))), ((u7 1), .inl (g.2.1.1, 96, .inl (fun _ => 0)))] H := hP
  have hD : va_D A [(h0, .inr (0, [.int a1, .int a2, .int a3, .int a4, .int a5, .ref q1, .ref q2, .ref q3, .int 0, .int 1, .long a6, .long 0, .int 0, .long 0, .int 0])), (q1, .inl (g.2.1.1, 96, .inl (fun _ => 0))), (q2, .inl (g.2.1.1, 6, .inl (upd (upd (upd (upd (upd (upd (fun _ => 0) (0 : Int32).toNatClampNeg (60 + (2 * 0))) (1 : Int32).toNatClampNeg (60 + (2 * 1))) (2 : Int32).toNatClampNeg (60 + (2 * 2))) (3 : Int32).toNatClampNeg (60 + (2 * 3))) (4 : Int32).toNatClampNeg (60 + (2 * 4))) (5 : Int32).toNatClampNeg (60 + (2 * 5))))), (q3, .inl (g.2.1.2.2.2.2.2, 3, .inr (.inr (.inr (.inr (va_up (va_up (fun _ => none) (0 : Int32).toNatClampNeg (some q4)) (1 : Int32).toNatClampNeg (some q6))))))), (q4, .inr (1, [.ref (u5 0), .ref (u5 1), .int 0])), ((u5 0), .inl (g.2.1.1, 96, .inl (fun _ => 0))), ((u5 1), .inl (g.2.1.1, 96, .inl (fun _ => 0))), (q6, .inr (1, [.ref (u7 0), .ref (u7 1), .int 0])), ((u7 0), .inl (g.2.1.1, 96, .inl (fun _ => 0))), ((u7 1), .inl (g.2.1.1, 96, .inl (fun _ => 0)))] := hD
  refine lv_iinc (v := 2) (lv' := [(8, .int 2), (0, .ref h0), (1, .int a1), (2, .int a2), (3, .int a3), (4, .int a4), (5, .int a5), (6, .long a6)]) hx hb dX0_init_126 hl (k := 0) rfl (by decide) (by decide) rfl (fun ls hl => ?_)
  refine lv_goto (tgt := 102) hx hb dX0_init_129 (by decide) ?_
  refine lv_iload hx hb dX0_init_102 (lv_at hl 0 rfl) ?_
  refine lv_aload_n hx hb dX0_init_104 rfl (lv_at hl 1 rfl) ?_
  refine va_get (ci := 0) (v := .ref q3) (C := RX0) (T := TX0) (N := 15) hx hb C0.2.2.2.2 inX0_B C0.2.2.2.1 hK.1 hP 0 rfl rfl 7 (by decide) (C0.2.2.2.2 _ wFL_X0_20) (fun _ h9 => h9) rfl dX0_init_105 ?_
  refine va_alen hx hb hK.1 hP 3 5 rfl rfl (show Int32.ofNat 3 = 3 by decide) dX0_init_108 ?_
  refine lv_icmp_ge (tgt := 132) hx hb dX0_init_109 (by decide) (fun c9 => absurd c9 (by decide)) (fun _ => ?_)
  refine lv_aload_n hx hb dX0_init_112 rfl (lv_at hl 1 rfl) ?_
  refine va_get (ci := 0) (v := .ref q3) (C := RX0) (T := TX0) (N := 15) hx hb C0.2.2.2.2 inX0_B C0.2.2.2.1 hK.1 hP 0 rfl rfl 7 (by decide) (C0.2.2.2.2 _ wFL_X0_20) (fun _ h9 => h9) rfl dX0_init_113 ?_
  refine lv_iload hx hb dX0_init_116 (lv_at hl 0 rfl) ?_
  refine va_new (A := A) (ci := 1) (fs := [.null, .null, .int 0]) (C := RX1) (T := TX1) (N := 3) hx hb C0.2.2.2.2 inX1_B tyX1 tyX1_ok C0.2.2.2.1 (C0.2.2.2.2 _ wCL_X0_18) (C0.2.2.2.2 _ wIS_X1) (C0.2.2.2.2 _ wIN_X1) hK.1 hP hD hS hA rfl (fun j hj => by rcases (show j = 0 ∨ j = 1 ∨ j = 2 by omega) with rfl | rfl | rfl <;> rfl) (Nat.le_of_ble_eq_true rfl) (Nat.le_of_ble_eq_true rfl) dX0_init_118 (fun q8 H hP hD hS => ?_)
  have hP : va_P g.1 vwCl [(h0, .inr (0, [.int a1, .int a2, .int a3, .int a4, .int a5, .ref q1, .ref q2, .ref q3, .int 0, .int 1, .long a6, .long 0, .int 0, .long 0, .int 0])), (q1, .inl (g.2.1.1, 96, .inl (fun _ => 0))), (q2, .inl (g.2.1.1, 6, .inl (upd (upd (upd (upd (upd (upd (fun _ => 0) (0 : Int32).toNatClampNeg (60 + (2 * 0))) (1 : Int32).toNatClampNeg (60 + (2 * 1))) (2 : Int32).toNatClampNeg (60 + (2 * 2))) (3 : Int32).toNatClampNeg (60 + (2 * 3))) (4 : Int32).toNatClampNeg (60 + (2 * 4))) (5 : Int32).toNatClampNeg (60 + (2 * 5))))), (q3, .inl (g.2.1.2.2.2.2.2, 3, .inr (.inr (.inr (.inr (va_up (va_up (fun _ => none) (0 : Int32).toNatClampNeg (some q4)) (1 : Int32).toNatClampNeg (some q6))))))), (q4, .inr (1, [.ref (u5 0), .ref (u5 1), .int 0])), ((u5 0), .inl (g.2.1.1, 96, .inl (fun _ => 0))), ((u5 1), .inl (g.2.1.1, 96, .inl (fun _ => 0))), (q6, .inr (1, [.ref (u7 0), .ref (u7 1), .int 0])), ((u7 0), .inl (g.2.1.1, 96, .inl (fun _ => 0))), ((u7 1), .inl (g.2.1.1, 96, .inl (fun _ => 0))), (q8, .inr (1, [.null, .null, .int 0]))] H := hP
  have hD : va_D A [(h0, .inr (0, [.int a1, .int a2, .int a3, .int a4, .int a5, .ref q1, .ref q2, .ref q3, .int 0, .int 1, .long a6, .long 0, .int 0, .long 0, .int 0])), (q1, .inl (g.2.1.1, 96, .inl (fun _ => 0))), (q2, .inl (g.2.1.1, 6, .inl (upd (upd (upd (upd (upd (upd (fun _ => 0) (0 : Int32).toNatClampNeg (60 + (2 * 0))) (1 : Int32).toNatClampNeg (60 + (2 * 1))) (2 : Int32).toNatClampNeg (60 + (2 * 2))) (3 : Int32).toNatClampNeg (60 + (2 * 3))) (4 : Int32).toNatClampNeg (60 + (2 * 4))) (5 : Int32).toNatClampNeg (60 + (2 * 5))))), (q3, .inl (g.2.1.2.2.2.2.2, 3, .inr (.inr (.inr (.inr (va_up (va_up (fun _ => none) (0 : Int32).toNatClampNeg (some q4)) (1 : Int32).toNatClampNeg (some q6))))))), (q4, .inr (1, [.ref (u5 0), .ref (u5 1), .int 0])), ((u5 0), .inl (g.2.1.1, 96, .inl (fun _ => 0))), ((u5 1), .inl (g.2.1.1, 96, .inl (fun _ => 0))), (q6, .inr (1, [.ref (u7 0), .ref (u7 1), .int 0])), ((u7 0), .inl (g.2.1.1, 96, .inl (fun _ => 0))), ((u7 1), .inl (g.2.1.1, 96, .inl (fun _ => 0))), (q8, .inr (1, [.null, .null, .int 0]))] := hD
  refine lv_dup hx hb dX0_init_121 rfl ?_
  have hPc := hP.sub (ws' := [(q8, .inr (1, [.null, .null, .int 0]))]) [10] rfl
  have hDc := hD.sub (ws' := [(q8, .inr (1, [.null, .null, .int 0]))]) [10] (by decide) rfl
  have hFc := va_free (wc := [(q8, .inr (1, [.null, .null, .int 0]))]) hD hS hA [10] rfl
  refine va_callv (va_runIN (As := []) (rest := [.ref q8, .int 2, .ref q3]) (host := "BirdParlour") C0 (kX1_init l g q8 H.size) ⟨va_cnB 0 C0.2.2.2.2 (ws_good wCO_X1_init) rfl rfl rfl (hK.2.1 (RX0, 48, yX1_init, "BirdParlour") (by decide +kernel)) (C0.2.2.2.2 _ wIN_X1) hdiX1_init ⟨(Nat.le_of_ble_eq_true rfl), (Nat.le_of_ble_eq_true rfl)⟩, rfl, C0.2.2.2.2 _ wIM_X1_init⟩ ⟨WL.blind, fun U hU hw => ⟨rfl, by rw [hU], by rw [hU]; exact hPc, hDc.weaken (fun _ _ _ _ => trivial), hK.warm hw⟩⟩ rfl rfl hl.1 rfl (lv_room (Nat.le_of_ble_eq_true rfl)) dX0_init_122 ⟨(Nat.le_of_ble_eq_true rfl), (Nat.le_of_ble_eq_true rfl)⟩) hS (fun q _ h => hFc q h) hFc (fun u9 t H1 locs ht hvm hw hB hz1 hk1 hS => ?_)
  obtain ⟨hP1, hD1⟩ := hB
  rw [ht] at hP1
  obtain ⟨hP, hD⟩ := va_join (wr := [(h0, .inr (0, [.int a1, .int a2, .int a3, .int a4, .int a5, .ref q1, .ref q2, .ref q3, .int 0, .int 1, .long a6, .long 0, .int 0, .long 0, .int 0])), (q1, .inl (g.2.1.1, 96, .inl (fun _ => 0))), (q2, .inl (g.2.1.1, 6, .inl (upd (upd (upd (upd (upd (upd (fun _ => 0) (0 : Int32).toNatClampNeg (60 + (2 * 0))) (1 : Int32).toNatClampNeg (60 + (2 * 1))) (2 : Int32).toNatClampNeg (60 + (2 * 2))) (3 : Int32).toNatClampNeg (60 + (2 * 3))) (4 : Int32).toNatClampNeg (60 + (2 * 4))) (5 : Int32).toNatClampNeg (60 + (2 * 5))))), (q3, .inl (g.2.1.2.2.2.2.2, 3, .inr (.inr (.inr (.inr (va_up (va_up (fun _ => none) (0 : Int32).toNatClampNeg (some q4)) (1 : Int32).toNatClampNeg (some q6))))))), (q4, .inr (1, [.ref (u5 0), .ref (u5 1), .int 0])), ((u5 0), .inl (g.2.1.1, 96, .inl (fun _ => 0))), ((u5 1), .inl (g.2.1.1, 96, .inl (fun _ => 0))), (q6, .inr (1, [.ref (u7 0), .ref (u7 1), .int 0])), ((u7 0), .inl (g.2.1.1, 96, .inl (fun _ => 0))), ((u7 1), .inl (g.2.1.1, 96, .inl (fun _ => 0)))]) (w1 := [(q8, .inr (1, [.ref (u9 0), .ref (u9 1), .int 0])), ((u9 0), .inl (g.2.1.1, 96, .inl (fun _ => 0))), ((u9 1), .inl (g.2.1.1, 96, .inl (fun _ => 0)))]) hP hD [10] [0, 1, 2, 3, 4, 5, 6, 7, 8, 9] rfl rfl (by decide) (by decide) hk1 hFc hP1 hD1
  generalize H1 = H at hP hS ⊢
  have hP : va_P g.1 vwCl [(h0, .inr (0, [.int a1, .int a2, .int a3, .int a4, .int a5, .ref q1, .ref q2, .ref q3, .int 0, .int 1, .long a6, .long 0, .int 0, .long 0, .int 0])), (q1, .inl (g.2.1.1, 96, .inl (fun _ => 0))), (q2, .inl (g.2.1.1, 6, .inl (upd (upd (upd (upd (upd (upd (fun _ => 0) (0 : Int32).toNatClampNeg (60 + (2 * 0))) (1 : Int32).toNatClampNeg (60 + (2 * 1))) (2 : Int32).toNatClampNeg (60 + (2 * 2))) (3 : Int32).toNatClampNeg (60 + (2 * 3))) (4 : Int32).toNatClampNeg (60 + (2 * 4))) (5 : Int32).toNatClampNeg (60 + (2 * 5))))), (q3, .inl (g.2.1.2.2.2.2.2, 3, .inr (.inr (.inr (.inr (va_up (va_up (fun _ => none) (0 : Int32).toNatClampNeg (some q4)) (1 : Int32).toNatClampNeg (some q6))))))), (q4, .inr (1, [.ref (u5 0), .ref (u5 1), .int 0])), ((u5 0), .inl (g.2.1.1, 96, .inl (fun _ => 0))), ((u5 1), .inl (g.2.1.1, 96, .inl (fun _ => 0))), (q6, .inr (1, [.ref (u7 0), .ref (u7 1), .int 0])), ((u7 0), .inl (g.2.1.1, 96, .inl (fun _ => 0))), ((u7 1), .inl (g.2.1.1, 96, .inl (fun _ => 0))), (q8, .inr (1, [.ref (u9 0), .ref (u9 1), .int 0])), ((u9 0), .inl (g.2.1.1, 96, .inl (fun _ => 0))), ((u9 1), .inl (g.2.1.1, 96, .inl (fun _ => 0)))] H := hP
  have hD : va_D A [(h0, .inr (0, [.int a1, .int a2, .int a3, .int a4, .int a5, .ref q1, .ref q2, .ref q3, .int 0, .int 1, .long a6, .long 0, .int 0, .long 0, .int 0])), (q1, .inl (g.2.1.1, 96, .inl (fun _ => 0))), (q2, .inl (g.2.1.1, 6, .inl (upd (upd (upd (upd (upd (upd (fun _ => 0) (0 : Int32).toNatClampNeg (60 + (2 * 0))) (1 : Int32).toNatClampNeg (60 + (2 * 1))) (2 : Int32).toNatClampNeg (60 + (2 * 2))) (3 : Int32).toNatClampNeg (60 + (2 * 3))) (4 : Int32).toNatClampNeg (60 + (2 * 4))) (5 : Int32).toNatClampNeg (60 + (2 * 5))))), (q3, .inl (g.2.1.2.2.2.2.2, 3, .inr (.inr (.inr (.inr (va_up (va_up (fun _ => none) (0 : Int32).toNatClampNeg (some q4)) (1 : Int32).toNatClampNeg (some q6))))))), (q4, .inr (1, [.ref (u5 0), .ref (u5 1), .int 0])), ((u5 0), .inl (g.2.1.1, 96, .inl (fun _ => 0))), ((u5 1), .inl (g.2.1.1, 96, .inl (fun _ => 0))), (q6, .inr (1, [.ref (u7 0), .ref (u7 1), .int 0])), ((u7 0), .inl (g.2.1.1, 96, .inl (fun _ => 0))), ((u7 1), .inl (g.2.1.1, 96, .inl (fun _ => 0))), (q8, .inr (1, [.ref (u9 0), .ref (u9 1), .int 0])), ((u9 0), .inl (g.2.1.1, 96, .inl (fun _ => 0))), ((u9 1), .inl (g.2.1.1, 96, .inl (fun _ => 0)))] := hD
  refine va_astq hx hb hK.1 hP hD hS 3 5 10 1 rfl rfl rfl rfl (show vp_in 2 3 by unfold vp_in; decide) dX0_init_125 (fun H locs hP hD hS => ?_)
  have hP : va_P g.1 vwCl [(h0, .inr (0, [.int a1, .int a2, .int a3, .int a4, .int a5, .ref q1, .ref q2, .ref q3, .int 0, .int 1, .long a6, .long 0, .int 0, .long 0, .int 0])), (q1, .inl (g.2.1.1, 96, .inl (fun _ => 0))), (q2, .inl (g.2.1.1, 6, .inl (upd (upd (upd (upd (upd (upd (fun _ => 0) (0 : Int32).toNatClampNeg (60 + (2 * 0))) (1 : Int32).toNatClampNeg (60 + (2 * 1))) (2 : Int32).toNatClampNeg (60 + (2 * 2))) (3 : Int32).toNatClampNeg (60 + (2 * 3))) (4 : Int32).toNatClampNeg (60 + (2 * 4))) (5 : Int32).toNatClampNeg (60 + (2 * 5))))), (q3, .inl (g.2.1.2.2.2.2.2, 3, .inr (.inr (.inr (.inr (va_up (va_up (va_up (fun _ => none) (0 : Int32).toNatClampNeg (some q4)) (1 : Int32).toNatClampNeg (some q6)) (2 : Int32).toNatClampNeg (some q8))))))), (q4, .inr (1, [.ref (u5 0), .ref (u5 1), .int 0])), ((u5 0), .inl (g.2.1.1, 96, .inl (fun _ => 0))), ((u5 1), .inl (g.2.1.1, 96, .inl (fun _ => 0))), (q6, .inr (1, [.ref (u7 0), .ref (u7 1), .int 0])), ((u7 0), .inl (g.2.1.1, 96, .inl (fun _ => 0))), ((u7 1), .inl (g.2.1.1, 96, .inl (fun _ => 0))), (q8, .inr (1, [.ref (u9 0), .ref (u9 1), .int 0])), ((u9 0), .inl (g.2.1.1, 96, .inl (fun _ => 0))), ((u9 1), .inl (g.2.1.1, 96, .inl (fun _ => 0)))] H := hP
  have hD : va_D A [(h0, .inr (0, [.int a1, .int a2, .int a3, .int a4, .int a5, .ref q1, .ref q2, .ref q3, .int 0, .int 1, .long a6, .long 0, .int 0, .long 0, .int 0])), (q1, .inl (g.2.1.1, 96, .inl (fun _ => 0))), (q2, .inl (g.2.1.1, 6, .inl (upd (upd (upd (upd (upd (upd (fun _ => 0) (0 : Int32).toNatClampNeg (60 + (2 * 0))) (1 : Int32).toNatClampNeg (60 + (2 * 1))) (2 : Int32).toNatClampNeg (60 + (2 * 2))) (3 : Int32).toNatClampNeg (60 + (2 * 3))) (4 : Int32).toNatClampNeg (60 + (2 * 4))) (5 : Int32).toNatClampNeg (60 + (2 * 5))))), (q3, .inl (g.2.1.2.2.2.2.2, 3, .inr (.inr (.inr (.inr (va_up (va_up (va_up (fun _ => none) (0 : Int32).toNatClampNeg (some q4)) (1 : Int32).toNatClampNeg (some q6)) (2 : Int32).toNatClampNeg (some q8))))))), (q4, .inr (1, [.ref (u5 0), .ref (u5 1), .int 0])), ((u5 0), .inl (g.2.1.1, 96, .inl (fun _ => 0))), ((u5 1), .inl (g.2.1.1, 96, .inl (fun _ => 0))), (q6, .inr (1, [.ref (u7 0), .ref (u7 1), .int 0])), ((u7 0), .inl (g.2.1.1, 96, .inl (fun _ => 0))), ((u7 1), .inl (g.2.1.1, 96, .inl (fun _ => 0))), (q8, .inr (1, [.ref (u9 0), .ref (u9 1), .int 0])), ((u9 0), .inl (g.2.1.1, 96, .inl (fun _ => 0))), ((u9 1), .inl (g.2.1.1, 96, .inl (fun _ => 0)))] := hD
  refine lv_iinc (v := 3) (lv' := [(8, .int 3), (0, .ref h0), (1, .int a1), (2, .int a2), (3, .int a3), (4, .int a4), (5, .int a5), (6, .long a6)]) hx hb dX0_init_126 hl (k := 0) rfl (by decide) (by decide) rfl (fun ls hl => ?_)
  refine lv_goto (tgt := 102) hx hb dX0_init_129 (by decide) ?_
  refine lv_iload hx hb dX0_init_102 (lv_at hl 0 rfl) ?_
  refine lv_aload_n hx hb dX0_init_104 rfl (lv_at hl 1 rfl) ?_
  refine va_get (ci := 0) (v := .ref q3) (C := RX0) (T := TX0) (N := 15) hx hb C0.2.2.2.2 inX0_B C0.2.2.2.1 hK.1 hP 0 rfl rfl 7 (by decide) (C0.2.2.2.2 _ wFL_X0_20) (fun _ h9 => h9) rfl dX0_init_105 ?_
  refine va_alen hx hb hK.1 hP 3 5 rfl rfl (show Int32.ofNat 3 = 3 by decide) dX0_init_108 ?_
  refine lv_icmp_ge (tgt := 132) hx hb dX0_init_109 (by decide) (fun _ => ?_) (fun c9 => absurd (by decide) c9)
  have hP9 := hP.sub (ws' := [(h0, .inr (0, [.int a1, .int a2, .int a3, .int a4, .int a5, .ref q1, .ref q2, .ref q3, .int 0, .int 1, .long a6, .long 0, .int 0, .long 0, .int 0])), (q1, .inl (g.2.1.1, 96, .inl (fun _ => 0))), (q2, .inl (g.2.1.1, 6, .inl (upd (upd (upd (upd (upd (upd (fun _ => 0) (0 : Int32).toNatClampNeg (60 + (2 * 0))) (1 : Int32).toNatClampNeg (60 + (2 * 1))) (2 : Int32).toNatClampNeg (60 + (2 * 2))) (3 : Int32).toNatClampNeg (60 + (2 * 3))) (4 : Int32).toNatClampNeg (60 + (2 * 4))) (5 : Int32).toNatClampNeg (60 + (2 * 5))))), (q3, .inl (g.2.1.2.2.2.2.2, 3, .inr (.inr (.inr (.inr (va_up (va_up (va_up (fun _ => none) (0 : Int32).toNatClampNeg (some q4)) (1 : Int32).toNatClampNeg (some q6)) (2 : Int32).toNatClampNeg (some q8))))))), (q4, .inr (1, [.ref (u5 0), .ref (u5 1), .int 0])), ((u5 0), .inl (g.2.1.1, 96, .inl (fun _ => 0))), ((u5 1), .inl (g.2.1.1, 96, .inl (fun _ => 0))), (q6, .inr (1, [.ref (u7 0), .ref (u7 1), .int 0])), ((u7 0), .inl (g.2.1.1, 96, .inl (fun _ => 0))), ((u7 1), .inl (g.2.1.1, 96, .inl (fun _ => 0))), (q8, .inr (1, [.ref (u9 0), .ref (u9 1), .int 0])), ((u9 0), .inl (g.2.1.1, 96, .inl (fun _ => 0))), ((u9 1), .inl (g.2.1.1, 96, .inl (fun _ => 0)))]) [0, 1, 2, 3, 4, 5, 6, 7, 8, 9, 10, 11, 12] rfl
  have hD9 := hD.sub (ws' := [(h0, .inr (0, [.int a1, .int a2, .int a3, .int a4, .int a5, .ref q1, .ref q2, .ref q3, .int 0, .int 1, .long a6, .long 0, .int 0, .long 0, .int 0])), (q1, .inl (g.2.1.1, 96, .inl (fun _ => 0))), (q2, .inl (g.2.1.1, 6, .inl (upd (upd (upd (upd (upd (upd (fun _ => 0) (0 : Int32).toNatClampNeg (60 + (2 * 0))) (1 : Int32).toNatClampNeg (60 + (2 * 1))) (2 : Int32).toNatClampNeg (60 + (2 * 2))) (3 : Int32).toNatClampNeg (60 + (2 * 3))) (4 : Int32).toNatClampNeg (60 + (2 * 4))) (5 : Int32).toNatClampNeg (60 + (2 * 5))))), (q3, .inl (g.2.1.2.2.2.2.2, 3, .inr (.inr (.inr (.inr (va_up (va_up (va_up (fun _ => none) (0 : Int32).toNatClampNeg (some q4)) (1 : Int32).toNatClampNeg (some q6)) (2 : Int32).toNatClampNeg (some q8))))))), (q4, .inr (1, [.ref (u5 0), .ref (u5 1), .int 0])), ((u5 0), .inl (g.2.1.1, 96, .inl (fun _ => 0))), ((u5 1), .inl (g.2.1.1, 96, .inl (fun _ => 0))), (q6, .inr (1, [.ref (u7 0), .ref (u7 1), .int 0])), ((u7 0), .inl (g.2.1.1, 96, .inl (fun _ => 0))), ((u7 1), .inl (g.2.1.1, 96, .inl (fun _ => 0))), (q8, .inr (1, [.ref (u9 0), .ref (u9 1), .int 0])), ((u9 0), .inl (g.2.1.1, 96, .inl (fun _ => 0))), ((u9 1), .inl (g.2.1.1, 96, .inl (fun _ => 0)))]) [0, 1, 2, 3, 4, 5, 6, 7, 8, 9, 10, 11, 12] (by decide) rfl
  exact W.vret hx hb hr (fun t ht hW => ⟨⟨(fun k => [q1, q2, q3, q4, (u5 0), (u5 1), q6, (u7 0), (u7 1), q8, (u9 0), (u9 1)].getD k 0), rfl, trivial, by subst ht; exact hP9, hD9⟩, hS.F ht⟩) hS.2.2 dX0_init_132
end
section
/-! addSpring and addBird: a new shape -/
theorem ct_sh {g : Gx} {h h' : Sh} {σ σ' : Sg} {k i : Nat} (ha : al h k i) (e1 : σ'.1 k i = σ.1 k i) (e2 : σ'.2 k i = σ.2 k i) (s1 : k = 1 → spF h' = spF h) (s2 : k = 2 → bdF h' = bdF h) (s9 : k = 9 → cmF h' i = cmF h i) (s0 : ∀ k', k' ≤ 4 → h'.2.2 k' 0 = h.2.2 k' 0) (s7 : ∀ k', 7 ≤ k' → k' ≤ 9 → i < h.2.1 → h'.2.2 k' i = h.2.2 k' i) (s11 : ∀ k', 11 ≤ k' → k' ≤ 12 → i < 3 * h.2.1 → h'.2.2 k' i = h.2.2 k' i) : ct g h' σ' k i = ct g h σ k i := by
  unfold ct cF
  rw [e1, e2]
  by_cases c0 : aln k ≠ 0
  · rw [if_pos c0, if_pos c0]
  rw [if_neg c0, if_neg c0]
  by_cases c1 : k = 0
  · rw [if_pos c1, if_pos c1, s0 1 (by decide), s0 2 (by decide), s0 3 (by decide)]
  rw [if_neg c1, if_neg c1]
  by_cases c2 : k = 1
  · rw [if_pos c2, if_pos c2, s1 c2]
  rw [if_neg c2, if_neg c2]
  by_cases c3 : k = 2
  · rw [if_pos c3, if_pos c3, s2 c3]
  rw [if_neg c3, if_neg c3]
  by_cases c4 : k = 3
  · rw [if_pos c4, if_pos c4, s0 4 (by decide)]
  rw [if_neg c4, if_neg c4]
  by_cases c5 : k = 5
  · rw [if_pos c5, if_pos c5]
  rw [if_neg c5, if_neg c5]
  by_cases c6 : k = 6
  · have hi : i < h.2.1 := by
      subst c6
      rcases ha with q | q | q | q <;> omega
    rw [if_pos c6, if_pos c6, s7 7 (by decide) (by decide) hi, s7 8 (by decide) (by decide) hi, s7 9 (by decide) (by decide) hi]
  rw [if_neg c6, if_neg c6]
  by_cases c7 : k = 9
  · rw [if_pos c7, if_pos c7, s9 c7]
  rw [if_neg c7, if_neg c7]
  have c8 : k = 10 ∨ k = 4 ∨ k = 7 ∨ k = 8 ∨ k = 11 ∨ k = 12 := by
    rcases ha with q | q | q | q <;> omega
  rcases c8 with c8 | c8 | c8 | c8 | c8 | c8
  · have hi : i < 3 * h.2.1 := by
      subst c8
      rcases ha with q | q | q | q <;> omega
    rw [s11 11 (by decide) (by decide) hi, s11 12 (by decide) (by decide) hi]
  all_goals exact absurd (by rw [c8]; decide) c0
/-- one spring more -/
def shS (h : Sh) (q : Nat) : Sh := (h.1 + 1, h.2.1, fun k i => if k = 5 ∧ i = h.1 then q else h.2.2 k i)
def sgS (σ : Sg) (ns : Nat) (x : Int32) : Sg := (fun k i f => if k = 5 ∧ i = ns then (if f = 0 then x else 0) else σ.1 k i f, fun k i f => if k = 5 ∧ i = ns then 0 else σ.2 k i f)
/-- one bird more -/
def shB (h : Sh) (q : Nat) (u : Nat → Nat) : Sh := (h.1, h.2.1 + 1, fun k i => if k = 6 ∧ i = h.2.1 then q else if k = 7 ∧ i = h.2.1 then u 0 else if k = 8 ∧ i = h.2.1 then u 1 else if k = 9 ∧ i = h.2.1 then u 2 else if 10 ≤ k ∧ k ≤ 12 ∧ 3 * h.2.1 ≤ i then u (3 + 3 * (i - 3 * h.2.1) + (k - 10)) else h.2.2 k i)
def ntC : Nat → Int32 := upd (upd (upd (upd (upd (upd (fun _ => 0) (0 : Int32).toNatClampNeg (60 + (2 * 0))) (1 : Int32).toNatClampNeg (60 + (2 * 1))) (2 : Int32).toNatClampNeg (60 + (2 * 2))) (3 : Int32).toNatClampNeg (60 + (2 * 3))) (4 : Int32).toNatClampNeg (60 + (2 * 4))) (5 : Int32).toNatClampNeg (60 + (2 * 5))
def sgB (σ : Sg) (nb : Nat) (a1 a2 a3 a4 a5 : Int32) (a6 : Int64) : Sg :=
  (fun k i f => if k = 6 ∧ i = nb then (if f = 0 then a1 else if f = 1 then a2 else if f = 2 then a3 else if f = 3 then a4 else if f = 4 then a5 else if f = 9 then 1 else 0) else if k = 7 ∧ i = nb then 0 else if k = 8 ∧ i = nb then ntC f else if 10 ≤ k ∧ k ≤ 12 ∧ 3 * nb ≤ i then 0 else σ.1 k i f,
   fun k i f => if k = 6 ∧ i = nb then (if f = 10 then a6 else 0) else σ.2 k i f)
theorem al_S {h : Sh} {q k i : Nat} (ha : al (shS h q) k i) (hn : ¬ (k = 5 ∧ i = h.1)) : al h k i := by
  unfold al shS at *
  simp only at ha
  omega
theorem al_B {h : Sh} {q k i : Nat} {u : Nat → Nat} (ha : al (shB h q u) k i) (h6 : ¬ (k = 6 ∧ i = h.2.1)) (h7 : ¬ (k = 7 ∧ i = h.2.1)) (h8 : ¬ (k = 8 ∧ i = h.2.1)) (h9 : ¬ (k = 9 ∧ i = h.2.1)) (h10 : ¬ (10 ≤ k ∧ k ≤ 12 ∧ 3 * h.2.1 ≤ i)) : al h k i := by
  unfold al shB at *
  simp only at ha
  omega
theorem addS {g : Gx} {h : Sh} {A : Nat → Prop} {σ : Sg} {q : Nat} {x : Int32} {H : Heap}
    (hX : FX g h A (fun k i => if k = 1 ∧ i = 0 then .inl (g.2.1.2.2.2.1, 4, .inr (.inr (.inr (.inr (va_up (spF h) h.1 (some q)))))) else ct g h σ k i) [(q, .inr (3, [.int x, .int 0, .long 0, .int 0, .int 0, .int 0, .long 0, .int 0]))] H) : FW g (shS h q) A (sgS σ h.1 x) H := by
  refine hX.add (fun k i => if k = 5 ∧ i = h.1 then some 0 else none) ?_ ?_ ?_
  · intro k i ha hn
    have hne : ¬ (k = 5 ∧ i = h.1) := fun z => by rw [if_pos z] at hn; cases hn
    have h1 : al h k i := al_S ha hne
    refine ⟨h1, if_neg hne, ?_⟩
    by_cases hk : k = 1 ∧ i = 0
    · rw [if_pos hk]
      obtain ⟨rfl, rfl⟩ := hk
      rw [ct1]
      congr 7
      funext j
      unfold spF iO shS va_up
      simp only
      by_cases hj : j = h.1
      · subst hj; simp
      · by_cases hj2 : j < h.1
        · simp [hj, hj2, show j < h.1 + 1 by omega]
        · simp [hj, hj2, show ¬ j < h.1 + 1 by omega]
    · rw [if_neg hk]
      refine ct_sh h1 ?_ ?_ (fun z => ?_) (fun _ => rfl) (fun _ => rfl) (fun k' z => if_neg (by omega)) (fun k' z _ _ => if_neg (by omega)) (fun k' z _ _ => if_neg (by omega))
      · funext f; exact if_neg hne
      · funext f; exact if_neg hne
      · subst z
        exfalso
        apply hk
        refine ⟨rfl, ?_⟩
        rcases h1 with q | q | q | q <;> omega
  · intro k i j ha hj
    by_cases hk : k = 5 ∧ i = h.1
    · rw [if_pos hk] at hj
      obtain ⟨rfl, rfl⟩ := hk
      cases hj
      simp [shS, ct5, sgS]
    · rw [if_neg hk] at hj; cases hj
  · intro k i k' i' j h1 h2 _ _
    by_cases hk : k = 5 ∧ i = h.1
    · by_cases hk' : k' = 5 ∧ i' = h.1
      · exact ⟨hk.1.trans hk'.1.symm, hk.2.trans hk'.2.symm⟩
      · rw [if_neg hk'] at h2; cases h2
    · rw [if_neg hk] at h1; cases h1
end
section
abbrev wsB (g : Gx) (q : Nat) (u : Nat → Nat) (a1 a2 a3 a4 a5 : Int32) (a6 : Int64) : va_W := [(q, .inr (0, [.int a1, .int a2, .int a3, .int a4, .int a5, .ref (u 0), .ref (u 1), .ref (u 2), .int 0, .int 1, .long a6, .long 0, .int 0, .long 0, .int 0])), (u 0, .inl (g.2.1.1, 96, .inl (fun _ => 0))), (u 1, .inl (g.2.1.1, 6, .inl ntC)), (u 2, .inl (g.2.1.2.2.2.2.2, 3, .inr (.inr (.inr (.inr (va_up (va_up (va_up (fun _ => none) (0 : Int32).toNatClampNeg (some (u 3))) (1 : Int32).toNatClampNeg (some (u 6))) (2 : Int32).toNatClampNeg (some (u 9)))))))), (u 3, .inr (1, [.ref (u 4), .ref (u 5), .int 0])), (u 4, .inl (g.2.1.1, 96, .inl (fun _ => 0))), (u 5, .inl (g.2.1.1, 96, .inl (fun _ => 0))), (u 6, .inr (1, [.ref (u 7), .ref (u 8), .int 0])), (u 7, .inl (g.2.1.1, 96, .inl (fun _ => 0))), (u 8, .inl (g.2.1.1, 96, .inl (fun _ => 0))), (u 9, .inr (1, [.ref (u 10), .ref (u 11), .int 0])), (u 10, .inl (g.2.1.1, 96, .inl (fun _ => 0))), (u 11, .inl (g.2.1.1, 96, .inl (fun _ => 0)))]
def nwB (nb : Nat) (k i : Nat) : Option Nat := if k = 6 ∧ i = nb then some 0 else if k = 7 ∧ i = nb then some 1 else if k = 8 ∧ i = nb then some 2 else if k = 9 ∧ i = nb then some 3 else if 10 ≤ k ∧ k ≤ 12 ∧ 3 * nb ≤ i then some (4 + 3 * (i - 3 * nb) + (k - 10)) else none
theorem shB6 (h : Sh) (q : Nat) (u : Nat → Nat) : (shB h q u).2.2 6 h.2.1 = q := by simp [shB]
theorem shB7 (h : Sh) (q : Nat) (u : Nat → Nat) : (shB h q u).2.2 7 h.2.1 = u 0 := by simp [shB]
theorem shB8 (h : Sh) (q : Nat) (u : Nat → Nat) : (shB h q u).2.2 8 h.2.1 = u 1 := by simp [shB]
theorem shB9 (h : Sh) (q : Nat) (u : Nat → Nat) : (shB h q u).2.2 9 h.2.1 = u 2 := by simp [shB]
theorem shB10 (h : Sh) (q : Nat) (u : Nat → Nat) (c : Nat) : (shB h q u).2.2 10 (3 * h.2.1 + c) = u (3 + 3 * c) := by simp [shB]
theorem shB11 (h : Sh) (q : Nat) (u : Nat → Nat) (c : Nat) : (shB h q u).2.2 11 (3 * h.2.1 + c) = u (3 + 3 * c + 1) := by simp [shB]
theorem shB12 (h : Sh) (q : Nat) (u : Nat → Nat) (c : Nat) : (shB h q u).2.2 12 (3 * h.2.1 + c) = u (3 + 3 * c + 2) := by simp [shB]
theorem sgB_off {σ : Sg} {nb : Nat} {a1 a2 a3 a4 a5 : Int32} {a6 : Int64} {k i : Nat} (h6 : ¬ (k = 6 ∧ i = nb)) (h7 : ¬ (k = 7 ∧ i = nb)) (h8 : ¬ (k = 8 ∧ i = nb)) (h10 : ¬ (10 ≤ k ∧ k ≤ 12 ∧ 3 * nb ≤ i)) : (sgB σ nb a1 a2 a3 a4 a5 a6).1 k i = σ.1 k i ∧ (sgB σ nb a1 a2 a3 a4 a5 a6).2 k i = σ.2 k i := by
  refine ⟨funext fun f => ?_, funext fun f => ?_⟩
  · show (if _ then _ else _) = _
    rw [if_neg h6, if_neg h7, if_neg h8, if_neg h10]
  · show (if _ then _ else _) = _
    rw [if_neg h6]
theorem cmB (h : Sh) (q : Nat) (u : Nat → Nat) : cmF (shB h q u) h.2.1 = va_up (va_up (va_up (fun _ => none) (0 : Int32).toNatClampNeg (some (u 3))) (1 : Int32).toNatClampNeg (some (u 6))) (2 : Int32).toNatClampNeg (some (u 9)) := by
  funext j
  show (if j < 3 then some ((shB h q u).2.2 10 (3 * h.2.1 + j)) else none) = _
  rw [shB10]
  have e0 : (0 : Int32).toNatClampNeg = 0 := by decide
  have e1 : (1 : Int32).toNatClampNeg = 1 := by decide
  have e2 : (2 : Int32).toNatClampNeg = 2 := by decide
  rw [e0, e1, e2]
  match j with
  | 0 => rfl
  | 1 => rfl
  | 2 => rfl
  | j + 3 => simp [va_up]
theorem camcase {h : Sh} {q k i : Nat} {u : Nat → Nat} (ha : al (shB h q u) k i) (h10 : 10 ≤ k ∧ k ≤ 12 ∧ 3 * h.2.1 ≤ i) : ∃ c, c < 3 ∧ i = 3 * h.2.1 + c := by
  refine ⟨i - 3 * h.2.1, ?_, by omega⟩
  unfold al shB at ha
  simp only at ha
  omega
theorem addB {g : Gx} {h : Sh} {A : Nat → Prop} {σ : Sg} {q : Nat} {u : Nat → Nat} {a1 a2 a3 a4 a5 : Int32} {a6 : Int64} {H : Heap}
    (hX : FX g h A (fun k i => if k = 2 ∧ i = 0 then .inl (g.2.1.2.2.2.2.1, 8, .inr (.inr (.inr (.inr (va_up (bdF h) h.2.1 (some q)))))) else ct g h σ k i) (wsB g q u a1 a2 a3 a4 a5 a6) H) : FW g (shB h q u) A (sgB σ h.2.1 a1 a2 a3 a4 a5 a6) H := by
  refine hX.add (nwB h.2.1) ?_ ?_ ?_
  · intro k i ha hn
    have h6 : ¬ (k = 6 ∧ i = h.2.1) := fun z => by unfold nwB at hn; rw [if_pos z] at hn; cases hn
    have h7 : ¬ (k = 7 ∧ i = h.2.1) := fun z => by unfold nwB at hn; rw [if_neg h6, if_pos z] at hn; cases hn
    have h8 : ¬ (k = 8 ∧ i = h.2.1) := fun z => by unfold nwB at hn; rw [if_neg h6, if_neg h7, if_pos z] at hn; cases hn
    have h9 : ¬ (k = 9 ∧ i = h.2.1) := fun z => by unfold nwB at hn; rw [if_neg h6, if_neg h7, if_neg h8, if_pos z] at hn; cases hn
    have h10 : ¬ (10 ≤ k ∧ k ≤ 12 ∧ 3 * h.2.1 ≤ i) := fun z => by unfold nwB at hn; rw [if_neg h6, if_neg h7, if_neg h8, if_neg h9, if_pos z] at hn; cases hn
    have h1 : al h k i := al_B ha h6 h7 h8 h9 h10
    have had : ∀ k' i', ¬ (k' = 6 ∧ i' = h.2.1) → ¬ (k' = 7 ∧ i' = h.2.1) → ¬ (k' = 8 ∧ i' = h.2.1) → ¬ (k' = 9 ∧ i' = h.2.1) → ¬ (10 ≤ k' ∧ k' ≤ 12 ∧ 3 * h.2.1 ≤ i') → (shB h q u).2.2 k' i' = h.2.2 k' i' := by
      intro k' i' q6 q7 q8 q9 q10
      show (if _ then _ else _) = _
      rw [if_neg q6, if_neg q7, if_neg q8, if_neg q9, if_neg q10]
    refine ⟨h1, had k i h6 h7 h8 h9 h10, ?_⟩
    by_cases hk : k = 2 ∧ i = 0
    · rw [if_pos hk]
      obtain ⟨rfl, rfl⟩ := hk
      rw [ct2]
      congr 7
      funext j
      unfold bdF iO va_up
      show (if j < h.2.1 + 1 then some j else none).map _ = _
      by_cases hj : j = h.2.1
      · subst hj
        rw [if_pos (Nat.lt_succ_self _), if_pos rfl]
        show some _ = some q
        rw [shB6]
      · rw [if_neg hj]
        show Option.map _ _ = Option.map (h.2.2 6) (if j < h.2.1 then some j else none)
        by_cases hj2 : j < h.2.1
        · rw [if_pos hj2, if_pos (show j < h.2.1 + 1 by omega)]
          show some _ = some _
          rw [had 6 j (by omega) (by omega) (by omega) (by omega) (by omega)]
        · rw [if_neg hj2, if_neg (show ¬ j < h.2.1 + 1 by omega)]
          rfl
    · rw [if_neg hk]
      obtain ⟨e1, e2⟩ := sgB_off (σ := σ) (a1 := a1) (a2 := a2) (a3 := a3) (a4 := a4) (a5 := a5) (a6 := a6) h6 h7 h8 h10
      refine ct_sh h1 e1 e2 (fun z => ?_) (fun z => ?_) (fun z => ?_) (fun k' z => had k' 0 (by omega) (by omega) (by omega) (by omega) (by omega)) (fun k' z1 z2 z3 => had k' i (by omega) (by omega) (by omega) (by omega) (by omega)) (fun k' z1 z2 z3 => had k' i (by omega) (by omega) (by omega) (by omega) (by omega))
      · funext j
        unfold spF
        show Option.map _ (iO h.1 j) = _
        exact congrArg (fun F => Option.map F (iO h.1 j)) (funext fun j' => had 5 j' (by omega) (by omega) (by omega) (by omega) (by omega))
      · subst z
        exfalso
        apply hk
        refine ⟨rfl, ?_⟩
        rcases h1 with q | q | q | q <;> omega
      · subst z
        funext j
        unfold cmF
        by_cases hj : j < 3
        · rw [if_pos hj, if_pos hj, had 10 (3 * i + j) (by omega) (by omega) (by omega) (by omega) (by rcases h1 with q | q | q | q <;> omega)]
        · rw [if_neg hj, if_neg hj]
  · intro k i j ha hj
    unfold nwB at hj
    by_cases h6 : k = 6 ∧ i = h.2.1
    · rw [if_pos h6] at hj
      obtain ⟨rfl, rfl⟩ := h6
      cases hj
      rw [ct6, shB6, shB7, shB8, shB9]
      simp [sgB]
    rw [if_neg h6] at hj
    by_cases h7 : k = 7 ∧ i = h.2.1
    · rw [if_pos h7] at hj
      obtain ⟨rfl, rfl⟩ := h7
      cases hj
      rw [shB7, show ct g (shB h q u) (sgB σ h.2.1 a1 a2 a3 a4 a5 a6) 7 h.2.1 = .inl (g.2.1.1, 96, .inl ((sgB σ h.2.1 a1 a2 a3 a4 a5 a6).1 7 h.2.1)) from rfl, show (sgB σ h.2.1 a1 a2 a3 a4 a5 a6).1 7 h.2.1 = fun _ => 0 by funext f; simp [sgB]]
      rfl
    rw [if_neg h7] at hj
    by_cases h8 : k = 8 ∧ i = h.2.1
    · rw [if_pos h8] at hj
      obtain ⟨rfl, rfl⟩ := h8
      cases hj
      rw [shB8, show ct g (shB h q u) (sgB σ h.2.1 a1 a2 a3 a4 a5 a6) 8 h.2.1 = .inl (g.2.1.1, 6, .inl ((sgB σ h.2.1 a1 a2 a3 a4 a5 a6).1 8 h.2.1)) from rfl, show (sgB σ h.2.1 a1 a2 a3 a4 a5 a6).1 8 h.2.1 = ntC by funext f; simp [sgB]]
      rfl
    rw [if_neg h8] at hj
    by_cases h9 : k = 9 ∧ i = h.2.1
    · rw [if_pos h9] at hj
      obtain ⟨rfl, rfl⟩ := h9
      cases hj
      rw [shB9, ct9, cmB]
      rfl
    rw [if_neg h9] at hj
    by_cases h10 : 10 ≤ k ∧ k ≤ 12 ∧ 3 * h.2.1 ≤ i
    · rw [if_pos h10] at hj
      obtain ⟨c, hc, rfl⟩ := camcase ha h10
      have hz : ∀ k', 10 ≤ k' → k' ≤ 12 → (sgB σ h.2.1 a1 a2 a3 a4 a5 a6).1 k' (3 * h.2.1 + c) = fun _ => 0 := by
        intro k' z1 z2
        funext f
        show (if _ then _ else _) = _
        rw [if_neg (by omega), if_neg (by omega), if_neg (by omega), if_pos (by omega)]
      rw [Nat.add_sub_cancel_left] at hj
      have hk : k = 10 ∨ k = 11 ∨ k = 12 := by omega
      rcases hk with rfl | rfl | rfl
      · rw [ct10, shB10, shB11, shB12, hz 10 (by decide) (by decide)]
        cases hj
        match c, hc with
        | 0, _ => rfl
        | 1, _ => rfl
        | 2, _ => rfl
      · rw [shB11, show ct g (shB h q u) (sgB σ h.2.1 a1 a2 a3 a4 a5 a6) 11 (3 * h.2.1 + c) = .inl (g.2.1.1, 96, .inl ((sgB σ h.2.1 a1 a2 a3 a4 a5 a6).1 11 (3 * h.2.1 + c))) from rfl, hz 11 (by decide) (by decide)]
        cases hj
        match c, hc with
        | 0, _ => rfl
        | 1, _ => rfl
        | 2, _ => rfl
      · rw [shB12, show ct g (shB h q u) (sgB σ h.2.1 a1 a2 a3 a4 a5 a6) 12 (3 * h.2.1 + c) = .inl (g.2.1.1, 96, .inl ((sgB σ h.2.1 a1 a2 a3 a4 a5 a6).1 12 (3 * h.2.1 + c))) from rfl, hz 12 (by decide) (by decide)]
        cases hj
        match c, hc with
        | 0, _ => rfl
        | 1, _ => rfl
        | 2, _ => rfl
    · rw [if_neg h10] at hj; cases hj
  · intro k i k' i' j h1 h2 ha ha'
    unfold nwB at h1 h2
    have hc : ¬ (10 ≤ k ∧ k ≤ 12 ∧ 3 * h.2.1 ≤ i) ∨ (i < 3 * h.2.1 + 3) := by
      by_cases z : 10 ≤ k ∧ k ≤ 12 ∧ 3 * h.2.1 ≤ i
      · obtain ⟨c, hc, rfl⟩ := camcase ha z; right; omega
      · exact Or.inl z
    have hc' : ¬ (10 ≤ k' ∧ k' ≤ 12 ∧ 3 * h.2.1 ≤ i') ∨ (i' < 3 * h.2.1 + 3) := by
      by_cases z : 10 ≤ k' ∧ k' ≤ 12 ∧ 3 * h.2.1 ≤ i'
      · obtain ⟨c, hc, rfl⟩ := camcase ha' z; right; omega
      · exact Or.inl z
    repeat' (split at h1)
    all_goals (try contradiction)
    all_goals (repeat' (split at h2))
    all_goals (try contradiction)
    all_goals (have g1 := Option.some.inj h1; have g2 := Option.some.inj h2; omega)
end
section
section MR
variable {p : Program} {l : Launch} {e : Env} {R : Room} {s : State} {m : MethodId} {args : Array Value} {below : List Frame} {meth : Method} {c : Code} {H : Heap} {locs : List Loc} {cells slots : Nat} {Q : State → Prop}
variable {cc bytes : ByteArray} {pc nL maxL index n lo mc ms fr lw : Nat} {ls : Array Slot} {rest st0 As : List Value} {own C : String} {g : Gx} {h : Sh} {σ σ1 : Sg} {y : MethodName} {ret : Option FieldType} {b : Nat} {Qc : Array Value → State → Outcome → State → Prop} {A : Nat → Prop} {H0 : Heap} {cf : Nat → Nat → va_E} {wc ws : va_W}
theorem FX.P1 (hX : FX g h A cf ws H) : va_P g.1 vwCl ws H := by
  obtain ⟨L, f, hP, -⟩ := hX
  exact va_P_right hP
theorem FX.D1 (hX : FX g h A cf ws H) : va_D A ws := by
  obtain ⟨L, f, -, hD, -⟩ := hX
  refine ⟨fun i j x z hi hj hxz => ?_, fun k x hk => ?_⟩
  · have := hD.1 ((va_pl L f).length + i) ((va_pl L f).length + j) x z (by rw [List.getElem?_append_right (by omega), Nat.add_sub_cancel_left]; exact hi) (by rw [List.getElem?_append_right (by omega), Nat.add_sub_cancel_left]; exact hj) hxz
    omega
  · exact hD.2 ((va_pl L f).length + k) x (by rw [List.getElem?_append_right (by omega), Nat.add_sub_cancel_left]; exact hk)
theorem FX.free (hX : FX g h (Ax lo) cf ws H) (hlo : lo ≤ s.heap.size) (hS : va_S (Ax lo) s.heap H locs) : ∀ z, va_A ws H.size z → Ax lo z := by
  intro z hz
  rcases hz with ⟨k, e, hk⟩ | hz
  · exact hX.D1.2 k _ hk
  · exact Nat.le_trans hlo (Nat.le_trans hS.1 hz)
theorem runC (C0 : CallFix p m c cc nL s args wB own) (hK : KW g s) (hX : FX g h A cf wc H)
    (hM : Met l y (ws_ y bytes maxL none) { frames := fr, cells := mc, slots := ms, locals := lw } (va_Pc (.ref b :: As) (WL H.size g wc)) Qc mc ms (va_A wc H.size))
    (hy : y.name = "<init>") (hco : Cond.code y bytes maxL none ∈ wB) (h1 : Cond.methodLink own index y ∈ wB) (h2 : Cond.instanceMethod y ∈ wB) (h4 : Cond.initialized y.cls ∈ wB)
    (hd : y.cls ≠ "java/lang/invoke/MethodHandle" ∧ y.cls ≠ "java/lang/invoke/VarHandle" ∧ (parseMethodDescriptor y.desc).map (fun d => d.parameters.length) = some n) (hR : fr + 1 ≤ R.frames ∧ 8 + (maxL + 11) + lw ≤ R.locals)
    (hn : As.length = n) (hsize : ls.size = nL) (hst : st0 = As.reverse ++ .ref b :: rest) (hrm : (rest.map fun v => v.category).sum ≤ 8) (hdg : decode cc pc = .ok (.invokespecial index, 3)) (hf : cells + mc ≤ R.cells ∧ slots + ms ≤ R.slots) :
    va_Run p l e R s m args below meth c H locs cells slots mc ms (F0 m pc ls st0) rest (Qc (Value.ref b :: As).toArray) (va_A wc H.size) :=
  va_runI (As := As) (rest := rest) C0 hM (cwI n C0.2.2.2.2 (ws_good hco) rfl rfl rfl (C0.2.2.2.2 _ h4) (C0.2.2.2.2 _ h1) (C0.2.2.2.2 _ h2) hy hd hR) ⟨WL.blind, fun U hU hw => ⟨rfl, by rw [hU], by rw [hU]; exact hX.P1, hX.D1.weaken (fun _ _ _ _ => trivial), hK.warm hw⟩⟩ rfl hn hsize hst (lv_room hrm) hdg hf
theorem inC {a : Array Value} {w1 : (Nat → Nat) → va_W} (hr : va_Run p l e R s m args below meth c H locs cells slots mc ms (F0 m pc ls st0) rest (va_Qv (fun (_ : Nat → Nat) => True) (fun u t => va_P g.1 vwCl (w1 u) t.heap ∧ va_D (va_A wc H.size) (w1 u)) (va_A wc H.size) a) (va_A wc H.size)) (hX : FX g h (Ax lo) cf wc H) (hlo : lo ≤ s.heap.size) (hS : va_S (Ax lo) s.heap H locs)
    (kk : ∀ (u : Nat → Nat) (H1 : Heap) (locs1 : List Loc), FX g h (Ax lo) cf (w1 u) H1 → va_S (Ax lo) s.heap H1 locs1 → W p l e R s m args below meth c H1 locs1 (cells + mc) (slots + ms) Q (F0 m (pc + 3) ls rest)) : W p l e R s m args below meth c H locs cells slots Q (F0 m pc ls st0) :=
  va_callv hr hS (fun q _ z => hX.free hlo hS q z) (hX.free hlo hS) (fun u t H1 locs1 ht hvm hw hB hz hk hS1 => by
    subst ht
    exact kk u _ _ (hX.join hk (hX.free hlo hS) hB.1 hB.2) hS1)
theorem astX (C0 : CallFix p m c cc nL s args wB own) (hK : KW g s) (hX : FX g h A cf ws H) (hS : va_S A H0 H locs) (kr ta : Nat) (har : al h kr 0) {cA : ClassId} {N : Nat} {f : Nat → Option Nat} (hcf : cf kr 0 = .inl (cA, N, .inr (.inr (.inr (.inr f))))) {r : vw_C} (ht : (tysG g)[ta]? = some (cA, .object r.1)) (j : Nat) {v ci : Nat} {vs : List Value} (hv : ws[j]? = some (v, .inr (ci, vs))) (hc : vwCl[ci]? = some r) {x : Int32} (hin : vp_in x N) (hdg : decode cc pc = .ok (.aastore, 1))
    (kk : ∀ (H1 : Heap) (locs1 : List Loc), FX g h A (fun k i => if k = kr ∧ i = 0 then .inl (cA, N, .inr (.inr (.inr (.inr (va_up f x.toNatClampNeg (some v)))))) else cf k i) ws H1 → va_S A H0 H1 locs1 → W p l e R s m args below meth c H1 locs1 cells slots Q (F0 m (pc + 1) ls rest)) : W p l e R s m args below meth c H locs cells slots Q (F0 m pc ls (.ref v :: .int x :: .ref (h.2.2 kr 0) :: rest)) := by
  obtain ⟨L, f0, hP, hD, hR, hJ, hXw⟩ := hX
  obtain ⟨k, hk⟩ := va_pl_get (X := []) (f := f0) (hR kr 0 har).1
  have hk : (va_pl L f0)[k]? = some (h.2.2 kr 0, f0 (h.2.2 kr 0)) := hk
  have hlt := (List.getElem?_eq_some_iff.mp hk).1
  have ha : (va_pl L f0 ++ ws)[k]? = some (h.2.2 kr 0, .inl (cA, N, .inr (.inr (.inr (.inr f))))) := by
    rw [List.getElem?_append_left hlt, hk, (hR kr 0 har).2, hcf]
  have hv2 : (va_pl L f0 ++ ws)[(va_pl L f0).length + j]? = some (v, .inr (ci, vs)) := by rw [List.getElem?_append_right (by omega), Nat.add_sub_cancel_left]; exact hv
  refine va_astq C0.1 C0.2.1 hK.1 hP hD hS k ta _ ci ha ht hv2 hc hin hdg (fun H1 locs1 hP1 hD1 hS1 => ?_)
  have e : (va_pl L f0 ++ ws).set k (h.2.2 kr 0, .inl (cA, N, .inr (.inr (.inr (.inr (va_up f x.toNatClampNeg (some v))))))) = va_pl L (va_up f0 (h.2.2 kr 0) (.inl (cA, N, .inr (.inr (.inr (.inr (va_up f x.toNatClampNeg (some v)))))))) ++ ws := by
    rw [List.set_append_left _ _ hlt]
    congr 1
    exact va_pl_set (X := []) (va_D_left hD) (hR kr 0 har).1 hk
  rw [e] at hP1 hD1
  refine kk H1 locs1 ⟨L, _, hP1, hD1, fun k' i' ha' => ⟨(hR k' i' ha').1, ?_⟩, hJ, fun z e9 hz => ⟨(hXw z e9 hz).1, by rw [va_up_ne _ _ (Ne.symm ((hXw z e9 hz).2.2 kr 0 har))]; exact (hXw z e9 hz).2.1, (hXw z e9 hz).2.2⟩⟩ hS1
  show _ = (if k' = kr ∧ i' = 0 then _ else _)
  by_cases hx : k' = kr ∧ i' = 0
  · rw [if_pos hx]
    obtain ⟨rfl, rfl⟩ := hx
    exact va_up_self _ _ _
  · rw [if_neg hx]
    have hn : h.2.2 k' i' ≠ h.2.2 kr 0 := fun q => hx (hJ k' i' kr 0 ha' har q)
    rw [va_up_ne _ _ hn]
    exact (hR k' i' ha').2
theorem retIg {S : Type} {B : S → State → Prop} {r : Int32} (u : S) (C0 : CallFix p m c cc nL s args wB own) (hr : meth.sig.returnType = some .int) (hlk : meth.locks = false) (hB : ∀ t : State, t.heap = H → B u t) (hS : va_S (Ax lo) s.heap H locs) (hdg : decode cc pc = .ok (.ireturn, 1)) :
    W p l e R s m args below meth c H locs cells slots (MQ below (va_Qi (fun (r' : Int32) (_ : S) => r' = r) B (Ax lo)) args s cells slots (Ax lo)) (F0 m pc ls [.int r]) :=
  W.iret C0.1 C0.2.1 hr (fun t ht hw => ⟨⟨r, u, rfl, rfl, hB t ht⟩, hS.F ht⟩) hS.2.2 hdg hlk
end MR
end
section
theorem hdX4_addSpring : yX4_addSpring.cls = RX4 ∧ yX4_addSpring.cls ≠ "java/lang/invoke/MethodHandle" ∧ yX4_addSpring.cls ≠ "java/lang/invoke/VarHandle" ∧ (parseMethodDescriptor yX4_addSpring.desc).map (fun d => d.parameters.length) = some 1 := by decide +kernel
def FX4_addSpring (ns nb : Nat) (σ : Sg) (a1 : Int32) : Option ((Nat ⊕ Int32) × Sg) :=
  (FX4_isIn ns nb σ a1 1 50).bind fun z1 => if z1.1 = 0 then (some (.inl 2, z1.2)) else (if (z1.2.1 0 0 3) < 0 then (some (.inl 3, z1.2)) else (if (z1.2.1 0 0 3) < 4 then (if ((z1.2.1 0 0 3) < 0 ∨ 4 ≤ (z1.2.1 0 0 3).toNatClampNeg) then none else (if (z1.2.1 0 0 3).toNatClampNeg = ns then (some (.inr (z1.2.1 0 0 3), (sI (sgS z1.2 ns a1) 0 0 3 (((sgS z1.2 ns a1).1 0 0 3) + 1)))) else none)) else (some (.inl 3, z1.2))))
set_option maxHeartbeats 4000000 in
set_option maxRecDepth 100000 in
theorem nX4_addSpring (l : Launch) (lo : Nat) (g : Gx) (h : Sh) (σ : Sg) (a1 : Int32)  (r : Int32) (σ1 : Sg) (hF : FX4_addSpring h.1 h.2.1 σ a1 = some (.inr r, σ1)) : Met l yX4_addSpring (ws_ yX4_addSpring cX4_addSpring 3 (some .int)) { frames := 2, cells := 1, slots := 8, locals := 53 } (va_Pc [.ref (h.2.2 0 0), .int a1] (WD lo g h σ)) (va_Qi (fun (r' : Int32) (_ : Nat) => r' = r) (fun v t => FW g (shS h v) (Ax lo) σ1 t.heap) (Ax lo)) 1 8 (Ax lo) := by
  refine ofB (own := RX4) (by decide +kernel) rfl (fun p e s m below meth c C0 hr hlk hlo hK hZ hW hS ls hl => ?_) (Nat.le_of_ble_eq_true rfl)
  have hx := C0.1
  have hb := C0.2.1
  have hl : lv_has ls 3 [(0, .ref (h.2.2 0 0)), (1, .int a1)] := hl
  unfold FX4_addSpring at hF
  refine lv_iload_n hx hb dX4_addSpring_0 rfl (lv_at hl 1 rfl) ?_
  refine lv_iconst (v := 1) hx hb dX4_addSpring_1 (by decide) ?_
  refine lv_bipush (v := 50) hx hb dX4_addSpring_2 (by decide) ?_
  obtain ⟨z1, hz1, hF⟩ := bnd hF
  refine inI (runS C0 hlo hK hZ hW hS (kX4_isIn l lo g h _ a1 1 50  _ _ hz1) wCO_X4_isIn wML_X4_28 wST_X4_isIn wIN_X4 hdsX4_isIn ⟨Nat.le_of_ble_eq_true rfl, Nat.le_of_ble_eq_true rfl⟩ rfl hl.1 rfl (Nat.le_of_ble_eq_true rfl) dX4_addSpring_4 ⟨Nat.le_of_ble_eq_true rfl, Nat.le_of_ble_eq_true rfl⟩) hS (fun H locs hW hS => ?_)
  refine lv_if_ne (tgt := 20) hx hb dX4_addSpring_7 (by decide) (fun c2 => ?_) (fun c2 => ?_)
  · rw [if_neg c2] at hF
    refine lv_aload_n hx hb dX4_addSpring_20 rfl (lv_at hl 0 rfl) ?_
    refine get0 C0 hK hW 0 (al0 h 0 (by decide)) 3 (by decide) wFL_X4_39 rfl rfl dX4_addSpring_21 ?_
    refine lv_istore_n (lv' := [(2, .int (z1.2.1 0 0 3)), (0, .ref (h.2.2 0 0)), (1, .int a1)]) hx hb dX4_addSpring_24 rfl hl (by decide) rfl (fun ls hl => ?_)
    refine lv_iload_n hx hb dX4_addSpring_25 rfl (lv_at hl 0 rfl) ?_
    refine lv_if_lt (tgt := 38) hx hb dX4_addSpring_26 (by decide) (fun c3 => ?_) (fun c3 => ?_)
    · rw [if_pos c3] at hF
      cases hF
    · rw [if_neg c3] at hF
      refine lv_iload_n hx hb dX4_addSpring_29 rfl (lv_at hl 0 rfl) ?_
      refine lv_aload_n hx hb dX4_addSpring_30 rfl (lv_at hl 1 rfl) ?_
      refine get0 C0 hK hW 0 (al0 h 0 (by decide)) 0 (by decide) wFL_X4_11 rfl rfl dX4_addSpring_31 ?_
      refine len1 C0 hK hW dX4_addSpring_34 ?_
      refine lv_icmp_lt (tgt := 48) hx hb dX4_addSpring_35 (by decide) (fun c4 => ?_) (fun c4 => ?_)
      · rw [if_pos c4] at hF
        refine lv_aload_n hx hb dX4_addSpring_48 rfl (lv_at hl 1 rfl) ?_
        refine get0 C0 hK hW 0 (al0 h 0 (by decide)) 0 (by decide) wFL_X4_11 rfl rfl dX4_addSpring_49 ?_
        refine lv_iload_n hx hb dX4_addSpring_52 rfl (lv_at hl 0 rfl) ?_
        obtain ⟨hg, hF⟩ := grd hF
        obtain ⟨hcnt, hF⟩ := grp hF
        refine newX (C := RX3) (T := TX3) (N := 8) (ci := 3) (ty := tyX3) (fs := [.int 0, .int 0, .long 0, .int 0, .int 0, .int 0, .long 0, .int 0]) C0 hK hW.X hS (fun q hq => Nat.le_trans hlo hq) inX3_B tyX3_ok wCL_X4_9 wIS_X3 wIN_X3 rfl (fun j hj => by rcases (show j = 0 ∨ j = 1 ∨ j = 2 ∨ j = 3 ∨ j = 4 ∨ j = 5 ∨ j = 6 ∨ j = 7 by omega) with rfl | rfl | rfl | rfl | rfl | rfl | rfl | rfl <;> rfl) (Nat.le_of_ble_eq_true rfl) (Nat.le_of_ble_eq_true rfl) dX4_addSpring_53 (fun q H hX hS => ?_)
        refine lv_dup hx hb dX4_addSpring_56 rfl ?_
        refine lv_iload_n hx hb dX4_addSpring_57 rfl (lv_at hl 2 rfl) ?_
        refine inC (w1 := fun u => [(q, .inr (3, [.int a1, .int 0, .long 0, .int 0, .int 0, .int 0, .long 0, .int 0]))]) (runC C0 hK hX (kX3_init l g q H.size a1) rfl wCO_X3_init wML_X4_48 wIM_X3_init wIN_X3 hdiX3_init ⟨(Nat.le_of_ble_eq_true rfl), (Nat.le_of_ble_eq_true rfl)⟩ rfl hl.1 rfl (Nat.le_of_ble_eq_true rfl) dX4_addSpring_58 ⟨(Nat.le_of_ble_eq_true rfl), (Nat.le_of_ble_eq_true rfl)⟩) hX hlo hS (fun u H locs hX hS => ?_)
        refine astX C0 hK hX hS 1 3 (al0 h 1 (by decide)) (ct1 0) rfl 0 rfl rfl hg dX4_addSpring_61 (fun H locs hX hS => ?_)
        rw [hcnt] at hX
        have hW : FW g (shS h q) (Ax lo) (sgS z1.2 h.1 a1) H := addS hX
        refine lv_aload_n hx hb dX4_addSpring_62 rfl (lv_at hl 1 rfl) ?_
        refine lv_dup hx hb dX4_addSpring_63 rfl ?_
        refine get0 (h := (shS h q)) C0 hK hW 0 (al0 _ 0 (by decide)) 3 (by decide) wFL_X4_39 rfl rfl dX4_addSpring_64 ?_
        refine lv_iconst (v := 1) hx hb dX4_addSpring_67 (by decide) ?_
        refine lv_iadd hx hb dX4_addSpring_68 ?_
        refine put0_3 (h := (shS h q)) C0 hK hW hS 0 (al0 _ 0 (by decide)) wFL_X4_39 dX4_addSpring_69 (fun H locs hW hS => ?_)
        refine lv_iload_n hx hb dX4_addSpring_72 rfl (lv_at hl 0 rfl) ?_
        cases hF
        exact retIg q C0 hr hlk (fun t ht => by subst ht; exact hW) hS dX4_addSpring_73
      · rw [if_neg c4] at hF
        cases hF
  · rw [if_pos c2] at hF
    cases hF
theorem hdX4_addBird : yX4_addBird.cls = RX4 ∧ yX4_addBird.cls ≠ "java/lang/invoke/MethodHandle" ∧ yX4_addBird.cls ≠ "java/lang/invoke/VarHandle" ∧ (parseMethodDescriptor yX4_addBird.desc).map (fun d => d.parameters.length) = some 5 := by decide +kernel
def FX4_addBird (ns nb : Nat) (σ : Sg) (a1 : Int32) (a2 : Int32) (a3 : Int32) (a4 : Int32) (a5 : Int32) : Option ((Nat ⊕ Int32) × Sg) :=
  (FX4_springAt ns nb σ a1).bind fun z1 => oc z1.1 (some (.inl 1, z1.2)) (fun iz1 => if iz1 < ns then ((FX4_isIn ns nb z1.2 a2 0 20).bind fun z2 => if z2.1 = 0 then (some (.inl 2, z2.2)) else ((FX4_isIn ns nb z2.2 a3 8 96).bind fun z4 => if z4.1 = 0 then (some (.inl 2, z4.2)) else ((FX4_isIn ns nb z4.2 a4 1 12).bind fun z6 => if z6.1 = 0 then (some (.inl 2, z6.2)) else ((FX4_isIn ns nb z6.2 a5 1 12).bind fun z8 => if z8.1 = 0 then (some (.inl 2, z8.2)) else (if (z8.2.1 0 0 4) < 0 then (some (.inl 3, z8.2)) else (if (z8.2.1 0 0 4) < 8 then (if ((z8.2.1 0 0 4) < 0 ∨ 8 ≤ (z8.2.1 0 0 4).toNatClampNeg) then none else (if (z8.2.1 0 0 4).toNatClampNeg = nb then (some (.inr (z8.2.1 0 0 4), (sI (sgB z8.2 nb a1 a2 a3 a4 a5 (z8.2.2 5 iz1 2)) 0 0 4 (((sgB z8.2 nb a1 a2 a3 a4 a5 (z8.2.2 5 iz1 2)).1 0 0 4) + 1)))) else none)) else (some (.inl 3, z8.2)))))))) else none)
set_option maxHeartbeats 4000000 in
set_option maxRecDepth 100000 in
theorem nX4_addBird (l : Launch) (lo : Nat) (g : Gx) (h : Sh) (σ : Sg) (a1 : Int32) (a2 : Int32) (a3 : Int32) (a4 : Int32) (a5 : Int32)  (r : Int32) (σ1 : Sg) (hF : FX4_addBird h.1 h.2.1 σ a1 a2 a3 a4 a5 = some (.inr r, σ1)) : Met l yX4_addBird (ws_ yX4_addBird cX4_addBird 8 (some .int)) { frames := 3, cells := 13, slots := 705, locals := 80 } (va_Pc [.ref (h.2.2 0 0), .int a1, .int a2, .int a3, .int a4, .int a5] (WD lo g h σ)) (va_Qi (fun (r' : Int32) (_ : Nat × (Nat → Nat)) => r' = r) (fun v t => FW g (shB h v.1 v.2) (Ax lo) σ1 t.heap) (Ax lo)) 13 705 (Ax lo) := by
  refine ofB (own := RX4) (by decide +kernel) rfl (fun p e s m below meth c C0 hr hlk hlo hK hZ hW hS ls hl => ?_) (Nat.le_of_ble_eq_true rfl)
  have hx := C0.1
  have hb := C0.2.1
  have hl : lv_has ls 8 [(0, .ref (h.2.2 0 0)), (1, .int a1), (2, .int a2), (3, .int a3), (4, .int a4), (5, .int a5)] := hl
  unfold FX4_addBird at hF
  refine lv_aload_n hx hb dX4_addBird_0 rfl (lv_at hl 0 rfl) ?_
  refine lv_iload_n hx hb dX4_addBird_1 rfl (lv_at hl 1 rfl) ?_
  obtain ⟨z1, hz1, hF⟩ := bnd hF
  refine inR (runV C0 hlo hK hZ hW hS (kX4_springAt l lo g h _ a1  _ _ hz1) wCO_X4_springAt wML_X4_51 wIM_X4_springAt wSE_X4_X4_springAt wIN_X4 hdX4_springAt ⟨Nat.le_of_ble_eq_true rfl, Nat.le_of_ble_eq_true rfl⟩ (recvK hK hW (al0 h 0 (by decide)) (ct0 0) rfl) rfl hl.1 rfl (Nat.le_of_ble_eq_true rfl) dX4_addBird_2 ⟨Nat.le_of_ble_eq_true rfl, Nat.le_of_ble_eq_true rfl⟩) hS (fun H locs hW hS => ?_)
  refine nspl (fun nz1 => ?_) (fun iz1 nz1 => ?_)
  · rw [nz1, oc_n] at hF
    refine lv_astoreN (lv' := [(6, .null), (0, .ref (h.2.2 0 0)), (1, .int a1), (2, .int a2), (3, .int a3), (4, .int a4), (5, .int a5)]) hx hb dX4_addBird_5 hl (by decide) rfl (fun ls hl => ?_)
    refine lv_aloadN hx hb dX4_addBird_7 (lv_at hl 0 rfl) ?_
    refine lv_ifnonnullN hx hb dX4_addBird_9 ?_
    cases hF
  · rw [nz1, oc_s] at hF
    obtain ⟨hiz1, hF⟩ := grp hF
    refine lv_astore (lv' := [(6, .ref (h.2.2 5 iz1)), (0, .ref (h.2.2 0 0)), (1, .int a1), (2, .int a2), (3, .int a3), (4, .int a4), (5, .int a5)]) hx hb dX4_addBird_5 hl (by decide) rfl (fun ls hl => ?_)
    refine lv_aload hx hb dX4_addBird_7 (lv_at hl 0 rfl) ?_
    refine lv_ifnonnull (tgt := 22) hx hb dX4_addBird_9 (by decide) ?_
    refine lv_iload_n hx hb dX4_addBird_22 rfl (lv_at hl 3 rfl) ?_
    refine lv_iconst (v := 0) hx hb dX4_addBird_23 (by decide) ?_
    refine lv_bipush (v := 20) hx hb dX4_addBird_24 (by decide) ?_
    obtain ⟨z2, hz2, hF⟩ := bnd hF
    refine inI (runS C0 hlo hK hZ hW hS (kX4_isIn l lo g h _ a2 0 20  _ _ hz2) wCO_X4_isIn wML_X4_28 wST_X4_isIn wIN_X4 hdsX4_isIn ⟨Nat.le_of_ble_eq_true rfl, Nat.le_of_ble_eq_true rfl⟩ rfl hl.1 rfl (Nat.le_of_ble_eq_true rfl) dX4_addBird_26 ⟨Nat.le_of_ble_eq_true rfl, Nat.le_of_ble_eq_true rfl⟩) hS (fun H locs hW hS => ?_)
    refine lv_if_ne (tgt := 42) hx hb dX4_addBird_29 (by decide) (fun c3 => ?_) (fun c3 => ?_)
    · rw [if_neg c3] at hF
      refine lv_iload_n hx hb dX4_addBird_42 rfl (lv_at hl 4 rfl) ?_
      refine lv_bipush (v := 8) hx hb dX4_addBird_43 (by decide) ?_
      refine lv_bipush (v := 96) hx hb dX4_addBird_45 (by decide) ?_
      obtain ⟨z4, hz4, hF⟩ := bnd hF
      refine inI (runS C0 hlo hK hZ hW hS (kX4_isIn l lo g h _ a3 8 96  _ _ hz4) wCO_X4_isIn wML_X4_28 wST_X4_isIn wIN_X4 hdsX4_isIn ⟨Nat.le_of_ble_eq_true rfl, Nat.le_of_ble_eq_true rfl⟩ rfl hl.1 rfl (Nat.le_of_ble_eq_true rfl) dX4_addBird_47 ⟨Nat.le_of_ble_eq_true rfl, Nat.le_of_ble_eq_true rfl⟩) hS (fun H locs hW hS => ?_)
      refine lv_if_ne (tgt := 63) hx hb dX4_addBird_50 (by decide) (fun c5 => ?_) (fun c5 => ?_)
      · rw [if_neg c5] at hF
        refine lv_iload hx hb dX4_addBird_63 (lv_at hl 5 rfl) ?_
        refine lv_iconst (v := 1) hx hb dX4_addBird_65 (by decide) ?_
        refine lv_bipush (v := 12) hx hb dX4_addBird_66 (by decide) ?_
        obtain ⟨z6, hz6, hF⟩ := bnd hF
        refine inI (runS C0 hlo hK hZ hW hS (kX4_isIn l lo g h _ a4 1 12  _ _ hz6) wCO_X4_isIn wML_X4_28 wST_X4_isIn wIN_X4 hdsX4_isIn ⟨Nat.le_of_ble_eq_true rfl, Nat.le_of_ble_eq_true rfl⟩ rfl hl.1 rfl (Nat.le_of_ble_eq_true rfl) dX4_addBird_68 ⟨Nat.le_of_ble_eq_true rfl, Nat.le_of_ble_eq_true rfl⟩) hS (fun H locs hW hS => ?_)
        refine lv_if_eq (tgt := 85) hx hb dX4_addBird_71 (by decide) (fun c7 => ?_) (fun c7 => ?_)
        · rw [if_pos c7] at hF
          cases hF
        · rw [if_neg c7] at hF
          refine lv_iload hx hb dX4_addBird_74 (lv_at hl 6 rfl) ?_
          refine lv_iconst (v := 1) hx hb dX4_addBird_76 (by decide) ?_
          refine lv_bipush (v := 12) hx hb dX4_addBird_77 (by decide) ?_
          obtain ⟨z8, hz8, hF⟩ := bnd hF
          refine inI (runS C0 hlo hK hZ hW hS (kX4_isIn l lo g h _ a5 1 12  _ _ hz8) wCO_X4_isIn wML_X4_28 wST_X4_isIn wIN_X4 hdsX4_isIn ⟨Nat.le_of_ble_eq_true rfl, Nat.le_of_ble_eq_true rfl⟩ rfl hl.1 rfl (Nat.le_of_ble_eq_true rfl) dX4_addBird_79 ⟨Nat.le_of_ble_eq_true rfl, Nat.le_of_ble_eq_true rfl⟩) hS (fun H locs hW hS => ?_)
          refine lv_if_ne (tgt := 95) hx hb dX4_addBird_82 (by decide) (fun c9 => ?_) (fun c9 => ?_)
          · rw [if_neg c9] at hF
            refine lv_aload_n hx hb dX4_addBird_95 rfl (lv_at hl 1 rfl) ?_
            refine get0 C0 hK hW 0 (al0 h 0 (by decide)) 4 (by decide) wFL_X4_114 rfl rfl dX4_addBird_96 ?_
            refine lv_istore (lv' := [(7, .int (z8.2.1 0 0 4)), (6, .ref (h.2.2 5 iz1)), (0, .ref (h.2.2 0 0)), (1, .int a1), (2, .int a2), (3, .int a3), (4, .int a4), (5, .int a5)]) hx hb dX4_addBird_99 hl (by decide) rfl (fun ls hl => ?_)
            refine lv_iload hx hb dX4_addBird_101 (lv_at hl 0 rfl) ?_
            refine lv_if_lt (tgt := 116) hx hb dX4_addBird_103 (by decide) (fun c10 => ?_) (fun c10 => ?_)
            · rw [if_pos c10] at hF
              cases hF
            · rw [if_neg c10] at hF
              refine lv_iload hx hb dX4_addBird_106 (lv_at hl 0 rfl) ?_
              refine lv_aload_n hx hb dX4_addBird_108 rfl (lv_at hl 2 rfl) ?_
              refine get0 C0 hK hW 0 (al0 h 0 (by decide)) 1 (by decide) wFL_X4_17 rfl rfl dX4_addBird_109 ?_
              refine len2 C0 hK hW dX4_addBird_112 ?_
              refine lv_icmp_lt (tgt := 126) hx hb dX4_addBird_113 (by decide) (fun c11 => ?_) (fun c11 => ?_)
              · rw [if_pos c11] at hF
                refine lv_aload_n hx hb dX4_addBird_126 rfl (lv_at hl 2 rfl) ?_
                refine get0 C0 hK hW 0 (al0 h 0 (by decide)) 1 (by decide) wFL_X4_17 rfl rfl dX4_addBird_127 ?_
                refine lv_iload hx hb dX4_addBird_130 (lv_at hl 0 rfl) ?_
                obtain ⟨hg, hF⟩ := grd hF
                obtain ⟨hcnt, hF⟩ := grp hF
                refine newX (C := RX0) (T := TX0) (N := 15) (ci := 0) (ty := tyX0) (fs := [.int 0, .int 0, .int 0, .int 0, .int 0, .null, .null, .null, .int 0, .int 0, .long 0, .long 0, .int 0, .long 0, .int 0]) C0 hK hW.X hS (fun q hq => Nat.le_trans hlo hq) inX0_B tyX0_ok wCL_X4_15 wIS_X0 wIN_X0 rfl (fun j hj => by rcases (show j = 0 ∨ j = 1 ∨ j = 2 ∨ j = 3 ∨ j = 4 ∨ j = 5 ∨ j = 6 ∨ j = 7 ∨ j = 8 ∨ j = 9 ∨ j = 10 ∨ j = 11 ∨ j = 12 ∨ j = 13 ∨ j = 14 by omega) with rfl | rfl | rfl | rfl | rfl | rfl | rfl | rfl | rfl | rfl | rfl | rfl | rfl | rfl | rfl <;> rfl) (Nat.le_of_ble_eq_true rfl) (Nat.le_of_ble_eq_true rfl) dX4_addBird_132 (fun q H hX hS => ?_)
                refine lv_dup hx hb dX4_addBird_135 rfl ?_
                refine lv_iload_n hx hb dX4_addBird_136 rfl (lv_at hl 3 rfl) ?_
                refine lv_iload_n hx hb dX4_addBird_137 rfl (lv_at hl 4 rfl) ?_
                refine lv_iload_n hx hb dX4_addBird_138 rfl (lv_at hl 5 rfl) ?_
                refine lv_iload hx hb dX4_addBird_139 (lv_at hl 6 rfl) ?_
                refine lv_iload hx hb dX4_addBird_141 (lv_at hl 7 rfl) ?_
                refine lv_aload hx hb dX4_addBird_143 (lv_at hl 1 rfl) ?_
                refine get5 C0 hK hX.W iz1 (al5 hiz1) 2 (by decide) wFL_X4_93 rfl rfl dX4_addBird_145 ?_
                refine inC (w1 := fun u => wsB g q u a1 a2 a3 a4 a5 (z8.2.2 5 iz1 2)) (runC C0 hK hX (kX0_init l g q H.size a1 a2 a3 a4 a5 (z8.2.2 5 iz1 2)) rfl wCO_X0_init wML_X4_119 wIM_X0_init wIN_X0 hdiX0_init ⟨(Nat.le_of_ble_eq_true rfl), (Nat.le_of_ble_eq_true rfl)⟩ rfl hl.1 rfl (Nat.le_of_ble_eq_true rfl) dX4_addBird_148 ⟨(Nat.le_of_ble_eq_true rfl), (Nat.le_of_ble_eq_true rfl)⟩) hX hlo hS (fun u H locs hX hS => ?_)
                refine astX C0 hK hX hS 2 4 (al0 h 2 (by decide)) (ct2 0) rfl 0 rfl rfl hg dX4_addBird_151 (fun H locs hX hS => ?_)
                rw [hcnt] at hX
                have hW : FW g (shB h q u) (Ax lo) (sgB z8.2 h.2.1 a1 a2 a3 a4 a5 (z8.2.2 5 iz1 2)) H := addB hX
                refine lv_aload_n hx hb dX4_addBird_152 rfl (lv_at hl 2 rfl) ?_
                refine lv_dup hx hb dX4_addBird_153 rfl ?_
                refine get0 (h := (shB h q u)) C0 hK hW 0 (al0 _ 0 (by decide)) 4 (by decide) wFL_X4_114 rfl rfl dX4_addBird_154 ?_
                refine lv_iconst (v := 1) hx hb dX4_addBird_157 (by decide) ?_
                refine lv_iadd hx hb dX4_addBird_158 ?_
                refine put0_4 (h := (shB h q u)) C0 hK hW hS 0 (al0 _ 0 (by decide)) wFL_X4_114 dX4_addBird_159 (fun H locs hW hS => ?_)
                refine lv_iload hx hb dX4_addBird_162 (lv_at hl 0 rfl) ?_
                cases hF
                exact retIg (q, u) C0 hr hlk (fun t ht => by subst ht; exact hW) hS dX4_addBird_164
              · rw [if_neg c11] at hF
                cases hF
          · rw [if_pos c9] at hF
            cases hF
      · rw [if_pos c5] at hF
        cases hF
    · rw [if_pos c3] at hF
      cases hF
end
