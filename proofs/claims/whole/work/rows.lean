section
-- ===== PART A: goes FIRST, ahead of the names: the tables' words, and 'selects' of the private methods out of them =====
/-- a private method of a class that the tables say can be made, by its rows of tables_1 -/
def lw_okq (q : MethodName × Nat) : Prop := (q.1.cls ≠ "java/lang/invoke/MethodHandle" ∧ q.1.cls ≠ "java/lang/invoke/VarHandle") ∧ Cond.instantiable q.1.cls q.2 ∈ tables_1 ∧ Cond.privateMethod q.1 ∈ tables_1 ∧ Cond.instanceMethod q.1 ∈ tables_1
theorem lw_p0 : lw_okq (⟨"BirdParlour", "heldByAll", "()I"⟩, 7) := ⟨⟨by decide +kernel, by decide +kernel⟩, List.mem_of_getElem? (i := 18) (by decide +kernel), List.mem_of_getElem? (i := 103) (by decide +kernel), List.mem_of_getElem? (i := 104) (by decide +kernel)⟩
theorem lw_p1 : lw_okq (⟨"java/lang/Throwable", "fillInStackTrace", "(I)Ljava/lang/Throwable;"⟩, 6) := ⟨⟨by decide +kernel, by decide +kernel⟩, List.mem_of_getElem? (i := 160) (by decide +kernel), List.mem_of_getElem? (i := 158) (by decide +kernel), List.mem_of_getElem? (i := 159) (by decide +kernel)⟩
theorem lw_p2 : lw_okq (⟨"BirdParlour", "springAt", "(I)LBirdParlour$Spring;"⟩, 7) := ⟨⟨by decide +kernel, by decide +kernel⟩, List.mem_of_getElem? (i := 18) (by decide +kernel), List.mem_of_getElem? (i := 198) (by decide +kernel), List.mem_of_getElem? (i := 199) (by decide +kernel)⟩
theorem lw_p3 : lw_okq (⟨"BirdParlour", "birdsDrivenBy", "(I)I"⟩, 7) := ⟨⟨by decide +kernel, by decide +kernel⟩, List.mem_of_getElem? (i := 18) (by decide +kernel), List.mem_of_getElem? (i := 203) (by decide +kernel), List.mem_of_getElem? (i := 204) (by decide +kernel)⟩
theorem lw_p4 : lw_okq (⟨"BirdParlour", "loadOn", "(I)I"⟩, 7) := ⟨⟨by decide +kernel, by decide +kernel⟩, List.mem_of_getElem? (i := 18) (by decide +kernel), List.mem_of_getElem? (i := 211) (by decide +kernel), List.mem_of_getElem? (i := 212) (by decide +kernel)⟩
theorem lw_p5 : lw_okq (⟨"BirdParlour", "mixBird", "(JI)J"⟩, 7) := ⟨⟨by decide +kernel, by decide +kernel⟩, List.mem_of_getElem? (i := 18) (by decide +kernel), List.mem_of_getElem? (i := 229) (by decide +kernel), List.mem_of_getElem? (i := 230) (by decide +kernel)⟩
theorem lw_p6 : lw_okq (⟨"BirdParlour", "birdAt", "(I)LBirdParlour$Bird;"⟩, 7) := ⟨⟨by decide +kernel, by decide +kernel⟩, List.mem_of_getElem? (i := 18) (by decide +kernel), List.mem_of_getElem? (i := 237) (by decide +kernel), List.mem_of_getElem? (i := 238) (by decide +kernel)⟩
theorem lw_p7 : lw_okq (⟨"BirdParlour", "goOneTick", "()I"⟩, 7) := ⟨⟨by decide +kernel, by decide +kernel⟩, List.mem_of_getElem? (i := 18) (by decide +kernel), List.mem_of_getElem? (i := 569) (by decide +kernel), List.mem_of_getElem? (i := 570) (by decide +kernel)⟩
theorem lw_p8 : lw_okq (⟨"BirdParlour", "shareBetweenCoupled", "()V"⟩, 7) := ⟨⟨by decide +kernel, by decide +kernel⟩, List.mem_of_getElem? (i := 18) (by decide +kernel), List.mem_of_getElem? (i := 573) (by decide +kernel), List.mem_of_getElem? (i := 574) (by decide +kernel)⟩
theorem lw_p9 : lw_okq (⟨"BirdParlour", "goShaft", "(ILBirdParlour$Spring;)I"⟩, 7) := ⟨⟨by decide +kernel, by decide +kernel⟩, List.mem_of_getElem? (i := 18) (by decide +kernel), List.mem_of_getElem? (i := 580) (by decide +kernel), List.mem_of_getElem? (i := 581) (by decide +kernel)⟩
theorem lw_p10 : lw_okq (⟨"BirdParlour", "goBarrel", "(ILBirdParlour$Bird;LBirdParlour$Spring;)I"⟩, 7) := ⟨⟨by decide +kernel, by decide +kernel⟩, List.mem_of_getElem? (i := 18) (by decide +kernel), List.mem_of_getElem? (i := 594) (by decide +kernel), List.mem_of_getElem? (i := 595) (by decide +kernel)⟩
theorem lw_p11 : lw_okq (⟨"BirdParlour", "soundPlace", "(ILBirdParlour$Bird;LBirdParlour$Spring;I)I"⟩, 7) := ⟨⟨by decide +kernel, by decide +kernel⟩, List.mem_of_getElem? (i := 18) (by decide +kernel), List.mem_of_getElem? (i := 607) (by decide +kernel), List.mem_of_getElem? (i := 608) (by decide +kernel)⟩
theorem lw_p12 : lw_okq (⟨"BirdParlour", "rememberAll", "()V"⟩, 7) := ⟨⟨by decide +kernel, by decide +kernel⟩, List.mem_of_getElem? (i := 18) (by decide +kernel), List.mem_of_getElem? (i := 650) (by decide +kernel), List.mem_of_getElem? (i := 651) (by decide +kernel)⟩
theorem lw_p13 : lw_okq (⟨"BirdParlour", "areAllDown", "()Z"⟩, 7) := ⟨⟨by decide +kernel, by decide +kernel⟩, List.mem_of_getElem? (i := 18) (by decide +kernel), List.mem_of_getElem? (i := 666) (by decide +kernel), List.mem_of_getElem? (i := 667) (by decide +kernel)⟩
theorem lw_p14 : lw_okq (⟨"BirdParlour", "recallAll", "()V"⟩, 7) := ⟨⟨by decide +kernel, by decide +kernel⟩, List.mem_of_getElem? (i := 18) (by decide +kernel), List.mem_of_getElem? (i := 670) (by decide +kernel), List.mem_of_getElem? (i := 671) (by decide +kernel)⟩
theorem lw_p15 : lw_okq (⟨"BirdParlourModel", "fail", "(I)I"⟩, 16) := ⟨⟨by decide +kernel, by decide +kernel⟩, List.mem_of_getElem? (i := 686) (by decide +kernel), List.mem_of_getElem? (i := 753) (by decide +kernel), List.mem_of_getElem? (i := 754) (by decide +kernel)⟩
def lw_privs_1 : List (MethodName × Nat) := [(⟨"BirdParlour", "heldByAll", "()I"⟩, 7), (⟨"java/lang/Throwable", "fillInStackTrace", "(I)Ljava/lang/Throwable;"⟩, 6), (⟨"BirdParlour", "springAt", "(I)LBirdParlour$Spring;"⟩, 7), (⟨"BirdParlour", "birdsDrivenBy", "(I)I"⟩, 7), (⟨"BirdParlour", "loadOn", "(I)I"⟩, 7), (⟨"BirdParlour", "mixBird", "(JI)J"⟩, 7), (⟨"BirdParlour", "birdAt", "(I)LBirdParlour$Bird;"⟩, 7), (⟨"BirdParlour", "goOneTick", "()I"⟩, 7), (⟨"BirdParlour", "shareBetweenCoupled", "()V"⟩, 7), (⟨"BirdParlour", "goShaft", "(ILBirdParlour$Spring;)I"⟩, 7), (⟨"BirdParlour", "goBarrel", "(ILBirdParlour$Bird;LBirdParlour$Spring;)I"⟩, 7), (⟨"BirdParlour", "soundPlace", "(ILBirdParlour$Bird;LBirdParlour$Spring;I)I"⟩, 7), (⟨"BirdParlour", "rememberAll", "()V"⟩, 7), (⟨"BirdParlour", "areAllDown", "()Z"⟩, 7), (⟨"BirdParlour", "recallAll", "()V"⟩, 7), (⟨"BirdParlourModel", "fail", "(I)I"⟩, 16)]
theorem lw_r1 : ∀ q ∈ lw_privs_1, lw_okq q := List.forall_mem_cons.mpr ⟨lw_p0, List.forall_mem_cons.mpr ⟨lw_p1, List.forall_mem_cons.mpr ⟨lw_p2, List.forall_mem_cons.mpr ⟨lw_p3, List.forall_mem_cons.mpr ⟨lw_p4, List.forall_mem_cons.mpr ⟨lw_p5, List.forall_mem_cons.mpr ⟨lw_p6, List.forall_mem_cons.mpr ⟨lw_p7, List.forall_mem_cons.mpr ⟨lw_p8, List.forall_mem_cons.mpr ⟨lw_p9, List.forall_mem_cons.mpr ⟨lw_p10, List.forall_mem_cons.mpr ⟨lw_p11, List.forall_mem_cons.mpr ⟨lw_p12, List.forall_mem_cons.mpr ⟨lw_p13, List.forall_mem_cons.mpr ⟨lw_p14, List.forall_mem_cons.mpr ⟨lw_p15, fun _ h => absurd h List.not_mem_nil⟩⟩⟩⟩⟩⟩⟩⟩⟩⟩⟩⟩⟩⟩⟩⟩
theorem lw_p16 : lw_okq (⟨"BirdParlourModel", "isSpring", "(I)Z"⟩, 16) := ⟨⟨by decide +kernel, by decide +kernel⟩, List.mem_of_getElem? (i := 686) (by decide +kernel), List.mem_of_getElem? (i := 761) (by decide +kernel), List.mem_of_getElem? (i := 762) (by decide +kernel)⟩
theorem lw_p17 : lw_okq (⟨"BirdParlourModel", "sp", "(II)I"⟩, 16) := ⟨⟨by decide +kernel, by decide +kernel⟩, List.mem_of_getElem? (i := 686) (by decide +kernel), List.mem_of_getElem? (i := 771) (by decide +kernel), List.mem_of_getElem? (i := 772) (by decide +kernel)⟩
theorem lw_p18 : lw_okq (⟨"BirdParlourModel", "pairs", "()I"⟩, 16) := ⟨⟨by decide +kernel, by decide +kernel⟩, List.mem_of_getElem? (i := 686) (by decide +kernel), List.mem_of_getElem? (i := 780) (by decide +kernel), List.mem_of_getElem? (i := 781) (by decide +kernel)⟩
theorem lw_p19 : lw_okq (⟨"BirdParlourModel", "springTold", "(II)I"⟩, 16) := ⟨⟨by decide +kernel, by decide +kernel⟩, List.mem_of_getElem? (i := 686) (by decide +kernel), List.mem_of_getElem? (i := 788) (by decide +kernel), List.mem_of_getElem? (i := 789) (by decide +kernel)⟩
theorem lw_p20 : lw_okq (⟨"BirdParlourModel", "load", "(I)I"⟩, 16) := ⟨⟨by decide +kernel, by decide +kernel⟩, List.mem_of_getElem? (i := 686) (by decide +kernel), List.mem_of_getElem? (i := 792) (by decide +kernel), List.mem_of_getElem? (i := 793) (by decide +kernel)⟩
theorem lw_p21 : lw_okq (⟨"BirdParlourModel", "get", "(II)I"⟩, 16) := ⟨⟨by decide +kernel, by decide +kernel⟩, List.mem_of_getElem? (i := 686) (by decide +kernel), List.mem_of_getElem? (i := 796) (by decide +kernel), List.mem_of_getElem? (i := 797) (by decide +kernel)⟩
theorem lw_p22 : lw_okq (⟨"BirdParlourModel", "liftAt", "(III)I"⟩, 16) := ⟨⟨by decide +kernel, by decide +kernel⟩, List.mem_of_getElem? (i := 686) (by decide +kernel), List.mem_of_getElem? (i := 800) (by decide +kernel), List.mem_of_getElem? (i := 801) (by decide +kernel)⟩
theorem lw_p23 : lw_okq (⟨"BirdParlourModel", "isBird", "(I)Z"⟩, 16) := ⟨⟨by decide +kernel, by decide +kernel⟩, List.mem_of_getElem? (i := 686) (by decide +kernel), List.mem_of_getElem? (i := 819) (by decide +kernel), List.mem_of_getElem? (i := 820) (by decide +kernel)⟩
theorem lw_p24 : lw_okq (⟨"BirdParlourModel", "set", "(III)V"⟩, 16) := ⟨⟨by decide +kernel, by decide +kernel⟩, List.mem_of_getElem? (i := 686) (by decide +kernel), List.mem_of_getElem? (i := 823) (by decide +kernel), List.mem_of_getElem? (i := 824) (by decide +kernel)⟩
theorem lw_p25 : lw_okq (⟨"BirdParlourModel", "pointsOf", "(II)I"⟩, 16) := ⟨⟨by decide +kernel, by decide +kernel⟩, List.mem_of_getElem? (i := 686) (by decide +kernel), List.mem_of_getElem? (i := 839) (by decide +kernel), List.mem_of_getElem? (i := 840) (by decide +kernel)⟩
theorem lw_p26 : lw_okq (⟨"BirdParlourModel", "oneTick", "()V"⟩, 16) := ⟨⟨by decide +kernel, by decide +kernel⟩, List.mem_of_getElem? (i := 686) (by decide +kernel), List.mem_of_getElem? (i := 855) (by decide +kernel), List.mem_of_getElem? (i := 856) (by decide +kernel)⟩
theorem lw_p27 : lw_okq (⟨"BirdParlourModel", "turn", "(I)V"⟩, 16) := ⟨⟨by decide +kernel, by decide +kernel⟩, List.mem_of_getElem? (i := 686) (by decide +kernel), List.mem_of_getElem? (i := 859) (by decide +kernel), List.mem_of_getElem? (i := 860) (by decide +kernel)⟩
theorem lw_p28 : lw_okq (⟨"BirdParlourModel", "note", "(II)V"⟩, 16) := ⟨⟨by decide +kernel, by decide +kernel⟩, List.mem_of_getElem? (i := 686) (by decide +kernel), List.mem_of_getElem? (i := 864) (by decide +kernel), List.mem_of_getElem? (i := 865) (by decide +kernel)⟩
theorem lw_p29 : lw_okq (⟨"BirdParlourModel", "counted", "(I)I"⟩, 16) := ⟨⟨by decide +kernel, by decide +kernel⟩, List.mem_of_getElem? (i := 686) (by decide +kernel), List.mem_of_getElem? (i := 872) (by decide +kernel), List.mem_of_getElem? (i := 873) (by decide +kernel)⟩
theorem lw_p30 : lw_okq (⟨"BirdParlourModel", "heldByAll", "()I"⟩, 16) := ⟨⟨by decide +kernel, by decide +kernel⟩, List.mem_of_getElem? (i := 686) (by decide +kernel), List.mem_of_getElem? (i := 876) (by decide +kernel), List.mem_of_getElem? (i := 877) (by decide +kernel)⟩
theorem lw_p31 : lw_okq (⟨"BirdParlourModel", "isDown", "()Z"⟩, 16) := ⟨⟨by decide +kernel, by decide +kernel⟩, List.mem_of_getElem? (i := 686) (by decide +kernel), List.mem_of_getElem? (i := 900) (by decide +kernel), List.mem_of_getElem? (i := 901) (by decide +kernel)⟩
def lw_privs_2 : List (MethodName × Nat) := [(⟨"BirdParlourModel", "isSpring", "(I)Z"⟩, 16), (⟨"BirdParlourModel", "sp", "(II)I"⟩, 16), (⟨"BirdParlourModel", "pairs", "()I"⟩, 16), (⟨"BirdParlourModel", "springTold", "(II)I"⟩, 16), (⟨"BirdParlourModel", "load", "(I)I"⟩, 16), (⟨"BirdParlourModel", "get", "(II)I"⟩, 16), (⟨"BirdParlourModel", "liftAt", "(III)I"⟩, 16), (⟨"BirdParlourModel", "isBird", "(I)Z"⟩, 16), (⟨"BirdParlourModel", "set", "(III)V"⟩, 16), (⟨"BirdParlourModel", "pointsOf", "(II)I"⟩, 16), (⟨"BirdParlourModel", "oneTick", "()V"⟩, 16), (⟨"BirdParlourModel", "turn", "(I)V"⟩, 16), (⟨"BirdParlourModel", "note", "(II)V"⟩, 16), (⟨"BirdParlourModel", "counted", "(I)I"⟩, 16), (⟨"BirdParlourModel", "heldByAll", "()I"⟩, 16), (⟨"BirdParlourModel", "isDown", "()Z"⟩, 16)]
theorem lw_r2 : ∀ q ∈ lw_privs_2, lw_okq q := List.forall_mem_cons.mpr ⟨lw_p16, List.forall_mem_cons.mpr ⟨lw_p17, List.forall_mem_cons.mpr ⟨lw_p18, List.forall_mem_cons.mpr ⟨lw_p19, List.forall_mem_cons.mpr ⟨lw_p20, List.forall_mem_cons.mpr ⟨lw_p21, List.forall_mem_cons.mpr ⟨lw_p22, List.forall_mem_cons.mpr ⟨lw_p23, List.forall_mem_cons.mpr ⟨lw_p24, List.forall_mem_cons.mpr ⟨lw_p25, List.forall_mem_cons.mpr ⟨lw_p26, List.forall_mem_cons.mpr ⟨lw_p27, List.forall_mem_cons.mpr ⟨lw_p28, List.forall_mem_cons.mpr ⟨lw_p29, List.forall_mem_cons.mpr ⟨lw_p30, List.forall_mem_cons.mpr ⟨lw_p31, fun _ h => absurd h List.not_mem_nil⟩⟩⟩⟩⟩⟩⟩⟩⟩⟩⟩⟩⟩⟩⟩⟩
def lw_privs : List (MethodName × Nat) := lw_privs_1 ++ (lw_privs_2)
def lw_tbl : List Cond := k2_sels lw_privs ++ tables_1
theorem lw_privs_ok : ∀ q ∈ lw_privs, lw_okq q := by
  show ∀ q ∈ lw_privs_1 ++ (lw_privs_2), lw_okq q
  exact List.forall_mem_append.mpr ⟨lw_r1, lw_r2⟩
/-- the streams that the claim lets the run draw from -/
abbrev lw_cs : List Choice := [Jvm.Choice.named "NaN.bits"]
theorem lw_bits : nanBits ∈ lw_cs := by first | decide | exact List.mem_cons_self | simp [lw_cs, nanBits]
-- ===== end of PART A; then your names; then what follows =====
end
section
/-! ===== BEGIN words of one list among another's, by their places ===== -/
theorem goodIn_r {big : List Cond} (ws : List Cond) (ps : List Nat) (hp : ws = ps.filterMap (fun i => big[i]?)) (h : ws.all goodWord = true) : GoodIn big ws := by
  intro w hw
  have h1 := List.all_eq_true.mp h w hw
  rw [hp] at hw
  obtain ⟨i, -, hi⟩ := List.mem_filterMap.mp hw
  have hm : w ∈ big := by first | exact List.mem_of_getElem? hi | exact List.getElem?_mem hi
  exact ⟨hm, good_of_word h1⟩
theorem goodIn_app {big a b : List Cond} (ha : GoodIn big a) (hb : GoodIn big b) : GoodIn big (a ++ b) := fun w h => (List.mem_append.mp h).elim (ha w) (hb w)
theorem goodIn_ca {big a b : List Cond} {c : Cond} (ha : GoodIn big (c :: a)) (hb : GoodIn big b) : GoodIn big (c :: (a ++ b)) := fun w h => (List.mem_cons.mp h).elim (fun e => ha w (List.mem_cons.mpr (Or.inl e))) (fun h => (List.mem_append.mp h).elim (fun h => ha w (List.mem_cons.mpr (Or.inr h))) (hb w))
theorem goodIn_sub {big ws : List Cond} (hm : ∀ w ∈ ws, w ∈ big) (h : ws.all goodWord = true) : GoodIn big ws := fun w hw => ⟨hm w hw, good_of_word (List.all_eq_true.mp h w hw)⟩
/-! ===== END ===== -/

/-! ===== BEGIN exceptions that leave a method, and their catching by the caller (launches without stack traces) ===== -/
section VXA
/-! The laws vx_back, vx_callV, vx_callS, vx_callSW, vx_throw0, vx_throwS follow proofs of the library, with one case more: JvmDerived/Free/Laws.lean (Back.of_free), Shelf42/LK1.lean (callV, callS), Shelf/KitTraced.lean (throwNew0V, throwNewS). -/
/-- where a method has thrown q: the class by its name, the cell, what was written, the world -/
def vx_T (XC : String → State → State → Prop) (st : State) (q : Addr) (t : State) (mc ms : Nat) (free : Addr → Prop) : Prop :=
  ∃ (E : String) (ce : Cell) (L : List Loc), XC E st t ∧ t.heap[q]? = some ce ∧ ce.vm = .none ∧ st.vm.findClass E = some ce.cls ∧ st.WarmedH t.vm ∧ st.sameButNew ({ t with vm := st.vm } : State) L mc ms ∧ ∀ z ∈ L, free z.base
def vx_Q (Qc : Array Value → State → Outcome → State → Prop) (XC : String → State → State → Prop) (mc ms : Nat) (free : Addr → Prop) : Array Value → State → Outcome → State → Prop := fun a st o t =>
  (Qc a st o t ∧ ∃ L, FrameEnd st o t L mc ms ∧ ∀ q ∈ L, free q.base) ∨ ∃ q, o = .threw q ∧ vx_T XC st q t mc ms free
/-- a callee that returns or throws -/
def vx_Met (l : Launch) (y : MethodName) (ws : List Cond) (rm : Room) (Pc : Array Value → State → Prop) (Qc : Array Value → State → Outcome → State → Prop) (XC : String → State → State → Prop) (mc ms : Nat) (free : Addr → Prop) : Prop :=
  MetFree l y (headSpec ws rm) Pc (fun _ _ _ _ _ => True) (vx_Q Qc XC mc ms free)
def vx_Post (XC : String → State → State → Prop) (mc ms : Nat) (free : Addr → Prop) : Pt → Array Value → Addr → Pt → Prop := fun A a q B =>
  ∃ (g : JFrame) (mk : MethodId) (t : State) (L : List Loc) (E : String) (ce : Cell), B.U.heap = t.heap ∧ B.U.vm = t.vm ∧ XC E (A.U.calling g mk a) t ∧ t.heap[q]? = some ce ∧ ce.vm = .none ∧ A.U.vm.findClass E = some ce.cls ∧ B.locs = A.locs ++ L ∧ (∀ z ∈ L, free z.base) ∧ B.cells = A.cells + mc ∧ B.slots = A.slots + ms
def vx_Back (l : Launch) (R : Room) (p : Program) (e : Env) (below : List Frame) (s : State) (sargs : Array Value) (y : MethodName) (len W9 : Nat)
    (Pre : Pt → Array Value → Prop) (Post : Pt → Array Value → Option Value → Pt → Prop) (PostX : Pt → Array Value → Addr → Pt → Prop) : Prop :=
  ∀ (m : MethodId) (meth : Method) (c : Code) (A : Pt) (g : JFrame) (ig : Instr) (mk : MethodId) (a : Array Value),
    Stand p l e R s m sargs below meth c A.U A.locs A.cells A.slots → g.method = m → g.locals.size = c.maxLocals → decode c.code g.pc = .ok (ig, len) →
    2 * g.monitorRoom + (g.stack.map fun v => v.category).sum ≤ W9 → A.U.methodNamed? y = some mk → Pre A a →
    (∃ (v : Option Value) (B : Pt), Stand p l e R s m sargs below meth c B.U B.locs B.cells B.slots ∧ Post A a v B ∧
      Steps p.tables e below (doInvoke e (A.U.setTop g) [] mk a).1 (B.U.setTop { g with pc := g.pc + len, stack := v.toList ++ g.stack })) ∨
    (∃ (q : Addr) (B : Pt), Stand p l e R s m sargs below meth c B.U B.locs B.cells B.slots ∧ PostX A a q B ∧
      Steps p.tables e below (doInvoke e (A.U.setTop g) [] mk a).1 ((B.U.setTop g).pushFrame (.throwing q)))
section Payer
variable {l : Launch} {R : Room} {p : Program} {e : Env} {below : List Frame} {s : State} {sargs : Array Value} {y : MethodName} {len W9 : Nat}
theorem vx_back {ws : List Cond} {rm : Room} {Pc : Array Value → State → Prop} {Qc : Array Value → State → Outcome → State → Prop} {XC : String → State → State → Prop} {mc ms : Nat} {free : Addr → Prop} {bytes : ByteArray} {maxL : Nat} {ret : Option FieldType}
    (hM : vx_Met l y ws rm Pc Qc XC mc ms free) (hblind : FrameBlind Pc) (hrc : rm.cells = mc) (hrs : rm.slots = ms)
    (hframes : rm.frames + 1 ≤ R.frames) (hlocals : W9 + (maxL + 11) + rm.locals ≤ R.locals)
    (hws : ∀ w ∈ ws, ∀ a' U, s.WarmedH U.vm → w.before a' U = true) (hcode : Cond.code y bytes maxL ret ∈ ws) (hinit : ∀ a' U, s.WarmedH U.vm → (Cond.initialized y.cls).before a' U = true) :
    vx_Back l R p e below s sargs y len W9 (PreOf R mc ms Pc) (PostOf Qc mc ms free) (vx_Post XC mc ms free) := by
  intro m meth c A g ig mk a X hg hsize hdg hW hn hp
  have h1 : (headSpec ws rm).pre.before a A.U = true := atoms_intro fun w hw => hws w hw _ _ X.warmed
  have h2 : (Cond.code y bytes maxL ret).before a A.U = true := hws _ hcode _ _ X.warmed
  have h3 : (Cond.initialized y.cls).before a A.U = true := hinit _ _ X.warmed
  have h4 : A.cells + (headSpec ws rm).room.cells ≤ R.cells := by rw [show (headSpec ws rm).room.cells = mc from hrc]; exact hp.1
  have h5 : A.slots + (headSpec ws rm).room.slots ≤ R.slots := by rw [show (headSpec ws rm).room.slots = ms from hrs]; exact hp.2.1
  have hPc : Pc a (A.U.calling g mk a) := hblind _ _ _ _ hp.2.2
  obtain ⟨U, Ls, c0, s0⟩ := A
  dsimp only [Pt.U, Pt.locs, Pt.cells, Pt.slots] at h1 h2 h3 h4 h5 X hn hPc ⊢
  obtain ⟨methY, cY, hmY, hcY, -, hlY, -, -, -, -⟩ := Cond.code_spec hn h2
  obtain ⟨kY, hkY, -⟩ := className_of_methodNamed hn
  have hinitY : kY.init = .initialized := Cond.initialized_spec (findClass_of_methodNamed hn) hkY h3
  have h : At U g.method c below := by rw [hg]; exact X.here
  have hlocals9 : W9 + (maxL + 11) + (headSpec ws rm).room.locals ≤ R.locals := hlocals
  have happ : (headSpec ws rm).appliesLoose y e.platform (U.calling g mk a) = true :=
    Spec.appliesLoose_calling (g := g) h hdg hn hkY hinitY
      (X.room_calling (g := g) (R' := (headSpec ws rm).room) hsize hmY hcY hframes (by rw [hlY]; omega) h4 h5) h1
  obtain ⟨mid, hmid⟩ := h.above
  have hfr : (U.setTop g).frames = (.java g :: mid) ++ below := by rw [State.frames_setTop' g h.top, hmid]; rfl
  obtain ⟨o, s₂, hsteps, -, hend, hq⟩ := Steps.callFree hM p X.admits X.cas X.clock (acts := []) hfr happ hPc trivial
  have hq' : vx_Q Qc XC mc ms free a (U.calling g mk a) o s₂ := hq
  rw [State.frames_setTop' g h.top] at hend
  obtain ⟨g₀, hg0⟩ := Option.isSome_iff_exists.mp h.top
  obtain ⟨r, hr⟩ := State.topJava?_eq_some.mp hg0
  have hr' : (({ U with heap := s₂.heap, slotsUsed := s₂.slotsUsed } : State).setVm s₂.vm).frames = .java g₀ :: r := hr
  rcases hq' with ⟨hqc, L, hfe, hL⟩ | ⟨q, rfl, E, ce, L, hx, hce, hcv, hcl, hW₂, hsm, hL⟩
  · obtain ⟨⟨v, rfl⟩, hW₂, e2, q2, q3, q4, q5, q6⟩ := id hfe
    have e3 : s₂ = ({ (U.calling g mk a).setFrames s₂.frames with heap := s₂.heap, slotsUsed := s₂.slotsUsed } : State).setVm s₂.vm := by
      have : s₂ = ({ s₂ with vm := (U.calling g mk a).vm } : State).setVm s₂.vm := rfl
      rw [e2] at this
      exact this
    obtain ⟨c₂, i₂, len₂, hc₂, hd₂, hf₂⟩ := hend
    have hW' : U.WarmedH s₂.vm := hW₂
    have hcc : c₂ = c := by
      have h1 : s₂.code? g.method = U.code? g.method := by
        rw [State.code?_eq, State.code?_eq, hW'.alike.method?]
      exact Option.some.inj (hc₂.symm.trans (h1.trans h.code))
    subst hcc
    have hlen : len₂ = len := by rw [hdg] at hd₂; cases hd₂; rfl
    subst hlen
    have hs₂ : s₂ = (({ U with heap := s₂.heap, slotsUsed := s₂.slotsUsed } : State).setVm s₂.vm).setTop { g with pc := g.pc + len₂, stack := v.toList ++ g.stack } := by
      refine e3.trans ?_
      rw [hf₂, State.calling_eq h.top, State.setFrames_setFrames, State.setTop_of_frames _ hr', hr]
      rfl
    have hsame : U.sameButNew ({ U with heap := s₂.heap, slotsUsed := s₂.slotsUsed } : State) L mc ms := by
      refine ⟨?_, q2, q3, q4, q5, q6⟩
      obtain ⟨t, ht, -⟩ := State.frames_cons hr
      show ({ U with heap := s₂.heap, slotsUsed := s₂.slotsUsed } : State) = { U.setFrames U.frames with heap := s₂.heap, slotsUsed := s₂.slotsUsed }
      rw [State.setFrames_self ht]
    subst hg
    refine Or.inl ⟨v, ⟨(({ U with heap := s₂.heap, slotsUsed := s₂.slotsUsed } : State).setVm s₂.vm), Ls ++ L, c0 + mc, s0 + ms⟩,
      ⟨X.admits, X.cas, X.clock, X.frames, X.room, X.hears, X.method, X.code, (X.here.setHeapUsed s₂.heap s₂.slotsUsed).setVm hW'.alike, X.tail, State.WarmedH.trans X.warmed hW', X.limits, X.bytes, X.same.trans (hsame.setVm s.vm)⟩,
      ⟨g, mk, s₂, L, rfl, rfl, hqc, rfl, hL, rfl, rfl⟩, ?_⟩
    show Steps p.tables e below _ ((({ U with heap := s₂.heap, slotsUsed := s₂.slotsUsed } : State).setVm s₂.vm).setTop { g with pc := g.pc + len₂, stack := v.toList ++ g.stack })
    rw [← hs₂]
    exact hsteps
  · obtain ⟨e2, q2, q3, q4, q5, q6⟩ := id hsm
    have e3 : s₂ = ({ (U.calling g mk a).setFrames s₂.frames with heap := s₂.heap, slotsUsed := s₂.slotsUsed } : State).setVm s₂.vm := by
      have : s₂ = ({ s₂ with vm := (U.calling g mk a).vm } : State).setVm s₂.vm := rfl
      rw [e2] at this
      exact this
    have hf₂ : s₂.frames = .throwing q :: .java g :: U.frames.tail := hend
    have hW' : U.WarmedH s₂.vm := hW₂
    have hs₂ : s₂ = ((({ U with heap := s₂.heap, slotsUsed := s₂.slotsUsed } : State).setVm s₂.vm).setTop g).pushFrame (.throwing q) := by
      refine e3.trans ?_
      rw [hf₂, State.calling_eq h.top, State.setFrames_setFrames, State.pushFrame, State.frames_setTop _ hr', State.setTop_of_frames _ hr', State.setFrames_setFrames, hr]
      rfl
    have hsame : U.sameButNew ({ U with heap := s₂.heap, slotsUsed := s₂.slotsUsed } : State) L mc ms := by
      refine ⟨?_, q2, q3, q4, q5, q6⟩
      obtain ⟨t, ht, -⟩ := State.frames_cons hr
      show ({ U with heap := s₂.heap, slotsUsed := s₂.slotsUsed } : State) = { U.setFrames U.frames with heap := s₂.heap, slotsUsed := s₂.slotsUsed }
      rw [State.setFrames_self ht]
    subst hg
    refine Or.inr ⟨q, ⟨(({ U with heap := s₂.heap, slotsUsed := s₂.slotsUsed } : State).setVm s₂.vm), Ls ++ L, c0 + mc, s0 + ms⟩,
      ⟨X.admits, X.cas, X.clock, X.frames, X.room, X.hears, X.method, X.code, (X.here.setHeapUsed s₂.heap s₂.slotsUsed).setVm hW'.alike, X.tail, State.WarmedH.trans X.warmed hW', X.limits, X.bytes, X.same.trans (hsame.setVm s.vm)⟩,
      ⟨g, mk, s₂, L, E, ce, rfl, rfl, hx, hce, hcv, hcl, rfl, hL, rfl, rfl⟩, ?_⟩
    show Steps p.tables e below _ (((({ U with heap := s₂.heap, slotsUsed := s₂.slotsUsed } : State).setVm s₂.vm).setTop g).pushFrame (.throwing q))
    rw [← hs₂]
    exact hsteps
end Payer
section Calls
variable {p : Program} {l : Launch} {e : Env} {R : Room} {s : State} {m : MethodId} {args : Array Value} {below : List Frame} {meth : Method} {c : Code} {T : State} {locs : List Loc} {cells slots : Nat}
theorem vx_callV (X : Stand p l e R s m args below meth c T locs cells slots) (hexec : p.tables.exec = Jvm.exec) {own C : String} {index : Nat} {y : MethodName} {bytes : ByteArray} {maxL : Nat} {ret : Option FieldType}
    (hown : s.vm.findClass own = some m.cls) (hlink : (Cond.methodLink own index y).before args s = true) (hinst : (Cond.instanceMethod y).before args s = true) (hsel : (Cond.selects C y y).before args s = true)
    (hcode : (Cond.code y bytes maxL ret).before args s = true) (hy : y.cls ≠ "java/lang/invoke/MethodHandle" ∧ y.cls ≠ "java/lang/invoke/VarHandle")
    {W9 : Nat} {Pre : Pt → Array Value → Prop} {Post : Pt → Array Value → Option Value → Pt → Prop} {PostX : Pt → Array Value → Addr → Pt → Prop} (hK : vx_Back l R p e below s args y 3 W9 Pre Post PostX)
    {b : Addr} {cellB : Cell} (hcell : T.heap[b]? = some cellB) (hobj : cellB.vm.isStatics = false) (hcls : s.vm.findClass C = some cellB.cls)
    {g : JFrame} (hg : g.method = m) (hsize : g.locals.size = c.maxLocals) {argsL rest : List Value} (hlen : ∀ sig, parseMethodDescriptor y.desc = some sig → argsL.length = sig.parameters.length)
    (hstack : g.stack = argsL.reverse ++ .ref b :: rest) (hW : 2 * g.monitorRoom + (rest.map fun v => v.category).sum ≤ W9) (hdg : decode c.code g.pc = .ok (.invokevirtual index, 3))
    (hpre : ∀ vm₁, s.WarmedH vm₁ → Pre ⟨T.setVm vm₁, locs, cells, slots⟩ (Value.ref b :: argsL).toArray) :
    (∃ (v : Option Value) (vm₁ : Vm) (B : Pt), s.WarmedH vm₁ ∧ Stand p l e R s m args below meth c B.U B.locs B.cells B.slots ∧ Post ⟨T.setVm vm₁, locs, cells, slots⟩ (Value.ref b :: argsL).toArray v B ∧
      ∀ target, Steps p.tables e below (B.U.setTop { g with pc := g.pc + 3, stack := v.toList ++ rest }) target → Steps p.tables e below (T.setTop g) target) ∨
    (∃ (q : Addr) (vm₁ : Vm) (B : Pt), s.WarmedH vm₁ ∧ Stand p l e R s m args below meth c B.U B.locs B.cells B.slots ∧ PostX ⟨T.setVm vm₁, locs, cells, slots⟩ (Value.ref b :: argsL).toArray q B ∧
      Steps p.tables e below (T.setTop g) ((B.U.setTop { g with stack := rest }).pushFrame (.throwing q))) := by
  obtain ⟨mk, methM, hnamed, hmethM, hstM, habM⟩ := Cond.instanceMethod_spec hinst
  obtain ⟨methM', cM, hmethM', -, -, -, -, -, -, hsigM⟩ := Cond.code_spec hnamed hcode
  cases hmethM.symm.trans hmethM'
  obtain ⟨c2, r2, m2, q1, q2, q3, q4, kP, hkP, hkPi⟩ := Cond.selects_spec hsel
  cases hcls.symm.trans q1
  cases (State.methodFound?_of_named hnamed hy).symm.trans q2
  cases hnamed.symm.trans q3
  have hselP : selectMethod e.platform s.vm cellB.cls mk = .method mk := by rw [Launch.admits_selectMethod X.admits]; exact q4
  obtain ⟨vm₁, X₁, hstep₁⟩ := X.invokevirtual hexec hown hlink hnamed hmethM hstM hkP hkPi hy (a := b) (cell := cellB) hcell
    (fun z h => by rw [h] at hobj; cases hobj) hselP hmethM habM hkP hkPi (g := g) hg (argsL := argsL) (rest := rest) (hlen _ hsigM) hstack hdg
  rcases hK m meth c ⟨T.setVm vm₁, locs, cells, slots⟩ { g with stack := rest } (.invokevirtual index) mk (Value.ref b :: argsL).toArray X₁ hg hsize hdg hW (X₁.named hnamed) (hpre vm₁ X₁.warmed) with ⟨v, B, X', hpost, hsteps⟩ | ⟨q, B, X', hpost, hsteps⟩
  · exact Or.inl ⟨v, vm₁, B, X₁.warmed, X', hpost, fun target h => hstep₁ _ fun acts => by rw [doInvoke_state]; exact hsteps.trans h⟩
  · exact Or.inr ⟨q, vm₁, B, X₁.warmed, X', hpost, hstep₁ _ fun acts => by rw [doInvoke_state]; exact hsteps⟩
theorem vx_callS (X : Stand p l e R s m args below meth c T locs cells slots) (hexec : p.tables.exec = Jvm.exec) {own : String} {index : Nat} {y : MethodName} {bytes : ByteArray} {maxL : Nat} {ret : Option FieldType}
    (hown : s.vm.findClass own = some m.cls) (hlink : (Cond.methodLink own index y).before args s = true) (hstat : (Cond.static y).before args s = true) (hinit : (Cond.initialized y.cls).before args s = true)
    (hcode : (Cond.code y bytes maxL ret).before args s = true) (hy : y.cls ≠ "java/lang/invoke/MethodHandle" ∧ y.cls ≠ "java/lang/invoke/VarHandle")
    {W9 : Nat} {Pre : Pt → Array Value → Prop} {Post : Pt → Array Value → Option Value → Pt → Prop} {PostX : Pt → Array Value → Addr → Pt → Prop} (hK : vx_Back l R p e below s args y 3 W9 Pre Post PostX)
    {g : JFrame} (hg : g.method = m) (hsize : g.locals.size = c.maxLocals) {argsL rest : List Value} (hlen : ∀ sig, parseMethodDescriptor y.desc = some sig → argsL.length = sig.parameters.length)
    (hstack : g.stack = argsL.reverse ++ rest) (hW : 2 * g.monitorRoom + (rest.map fun v => v.category).sum ≤ W9) (hdg : decode c.code g.pc = .ok (.invokestatic index, 3))
    (hpre : ∀ vm₁, s.WarmedH vm₁ → Pre ⟨T.setVm vm₁, locs, cells, slots⟩ argsL.toArray) :
    (∃ (v : Option Value) (vm₁ : Vm) (B : Pt), s.WarmedH vm₁ ∧ Stand p l e R s m args below meth c B.U B.locs B.cells B.slots ∧ Post ⟨T.setVm vm₁, locs, cells, slots⟩ argsL.toArray v B ∧
      ∀ target, Steps p.tables e below (B.U.setTop { g with pc := g.pc + 3, stack := v.toList ++ rest }) target → Steps p.tables e below (T.setTop g) target) ∨
    (∃ (q : Addr) (vm₁ : Vm) (B : Pt), s.WarmedH vm₁ ∧ Stand p l e R s m args below meth c B.U B.locs B.cells B.slots ∧ PostX ⟨T.setVm vm₁, locs, cells, slots⟩ argsL.toArray q B ∧
      Steps p.tables e below (T.setTop g) ((B.U.setTop { g with stack := rest }).pushFrame (.throwing q))) := by
  obtain ⟨mk, hnamed⟩ := Cond.code_named hcode
  obtain ⟨methM, cM, hmethM, -, -, -, -, -, -, hsigM⟩ := Cond.code_spec hnamed hcode
  have hstatic : methM.isStatic = true := Cond.static_spec hnamed hmethM hstat
  obtain ⟨kP, hkP, -⟩ := className_of_methodNamed hnamed
  have hinitP : kP.init = .initialized := Cond.initialized_spec (findClass_of_methodNamed hnamed) hkP hinit
  obtain ⟨vm₁, X₁, hstep₁⟩ := X.invokestatic hexec hown hlink hnamed hmethM hstatic hkP hinitP hy (g := g) hg (argsL := argsL) (rest := rest) (hlen _ hsigM) hstack hdg
  rcases hK m meth c ⟨T.setVm vm₁, locs, cells, slots⟩ { g with stack := rest } (.invokestatic index) mk argsL.toArray X₁ hg hsize hdg hW (X₁.named hnamed) (hpre vm₁ X₁.warmed) with ⟨v, B, X', hpost, hsteps⟩ | ⟨q, B, X', hpost, hsteps⟩
  · exact Or.inl ⟨v, vm₁, B, X₁.warmed, X', hpost, fun target h => hstep₁ _ fun acts => by rw [doInvoke_state]; exact hsteps.trans h⟩
  · exact Or.inr ⟨q, vm₁, B, X₁.warmed, X', hpost, hstep₁ _ fun acts => by rw [doInvoke_state]; exact hsteps⟩
end Calls
theorem vx_cls {s : State} {T : State} {vm₁ : Vm} {E : String} {k : ClassId} (hW : s.WarmedH vm₁) (h : (T.setVm vm₁).vm.findClass E = some k) : s.vm.findClass E = some k := by
  have h1 : vm₁.findClass E = some k := h
  rw [hW.alike.findClass] at h1
  exact h1
/-- the method's frame g, with q thrown over it -/
def vx_W (p : Program) (l : Launch) (e : Env) (R : Room) (s : State) (m : MethodId) (args : Array Value) (below : List Frame) (meth : Method) (c : Code) (H : Heap) (locs : List Loc) (cells slots : Nat) (Q : State → Prop) (g : JFrame) (q : Addr) : Prop :=
  ∀ T : State, T.heap = H → Stand p l e R s m args below meth c T locs cells slots → ∃ t, Steps p.tables e below ((T.setTop g).pushFrame (.throwing q)) t ∧ Q t
def vx_Run (p : Program) (l : Launch) (e : Env) (R : Room) (s : State) (m : MethodId) (args : Array Value) (below : List Frame) (meth : Method) (c : Code) (H : Heap) (locs : List Loc) (cells slots mc ms : Nat) (g : JFrame) (rest : List Value) (Qa : State → Outcome → State → Prop) (XC : String → State → State → Prop) (free : Addr → Prop) : Prop :=
  ∀ T : State, T.heap = H → Stand p l e R s m args below meth c T locs cells slots →
    (∃ (v : Option Value) (st₀ t T' : State) (L : List Loc), st₀.heap = H ∧ Stand p l e R s m args below meth c T' (locs ++ L) (cells + mc) (slots + ms) ∧ (∀ q ∈ L, free q.base) ∧ T'.heap = t.heap ∧ T'.vm = t.vm ∧ Qa st₀ (.returned v) t ∧
      Goes p e below T g T' { g with pc := g.pc + 3, stack := v.toList ++ rest }) ∨
    (∃ (q : Addr) (st₀ t T' : State) (L : List Loc) (E : String) (ce : Cell), st₀.heap = H ∧ Stand p l e R s m args below meth c T' (locs ++ L) (cells + mc) (slots + ms) ∧ (∀ z ∈ L, free z.base) ∧ T'.heap = t.heap ∧ T'.vm = t.vm ∧ XC E st₀ t ∧ t.heap[q]? = some ce ∧ ce.vm = .none ∧ s.vm.findClass E = some ce.cls ∧
      Steps p.tables e below (T.setTop g) ((T'.setTop { g with stack := rest }).pushFrame (.throwing q)))
def vx_X {S : Type} (px : S → Prop) (B : String → S → State → Prop) (A : Nat → Prop) : String → State → State → Prop := fun E st t => ∃ u : S, px u ∧ B E u t ∧ va_F A st t
section Runs
variable {p : Program} {l : Launch} {e : Env} {R : Room} {s : State} {m : MethodId} {args : Array Value} {below : List Frame} {meth : Method} {c : Code} {H : Heap} {locs : List Loc} {cells slots : Nat}
variable {y : MethodName} {bytes cc : ByteArray} {maxL nL mc ms n index : Nat} {ret : Option FieldType} {ws : List Cond} {rm : Room} {Pc : Array Value → State → Prop} {Qc : Array Value → State → Outcome → State → Prop} {XC : String → State → State → Prop} {free : Addr → Prop} {Ts : List Cond} {own C : String} {b : Addr} {As rest : List Value} {g : JFrame}
theorem vx_callBack (cb : CallB R s args own index y bytes maxL ret ws rm mc ms n) (hM : vx_Met l y ws rm Pc Qc XC mc ms free) (hbl : FrameBlind Pc) : vx_Back l R p e below s args y 3 8 (PreOf R mc ms Pc) (PostOf Qc mc ms free) (vx_Post XC mc ms free) := by
  obtain ⟨hrc, hrs, hfr, hlo, hws, hcw, -, hini, -⟩ := cb
  exact vx_back (bytes := bytes) (maxL := maxL) (ret := ret) hM hbl hrc hrs hfr hlo hws hcw (fun a' U hW => word_at hW (Or.inl (by first | rfl | simp [Cond.onTables, Cond.keeps, Cond.steady])) hini)
theorem vx_runV (S : CallFix p m c cc nL s args Ts own) (hM : vx_Met l y ws rm Pc Qc XC mc ms free) (cw : CallW R s args own C index y bytes maxL ret ws rm mc ms n) (hp : PreV s H C b Pc As)
    (hg : g.method = m) (hn : As.length = n) (hsize : g.locals.size = nL) (hstack : g.stack = As.reverse ++ .ref b :: rest) (hW : 2 * g.monitorRoom + (rest.map fun v => v.category).sum ≤ 8) (hdg : decode cc g.pc = .ok (.invokevirtual index, 3)) (hf : cells + mc ≤ R.cells ∧ slots + ms ≤ R.slots) :
    vx_Run p l e R s m args below meth c H locs cells slots mc ms g rest (Qc (Value.ref b :: As).toArray) XC free := by
  have hK : vx_Back l R p e below s args y 3 8 (PreOf R mc ms Pc) (PostOf Qc mc ms free) (vx_Post XC mc ms free) := vx_callBack cw.1 hM hp.1
  obtain ⟨⟨-, -, -, -, -, -, hcode, -, hy, hlen, hl⟩, hin, hse⟩ := cw
  obtain ⟨hx, hb, hml, ho, -⟩ := S
  obtain ⟨-, ⟨cellB, hcB, hoB, hclB⟩, hPc⟩ := hp
  intro T hT X
  rcases vx_callV X hx (C := C) (bytes := bytes) (maxL := maxL) (ret := ret) ho hl hin hse hcode hy hK (by rw [hT]; exact hcB) hoB hclB hg (hsize.trans hml.symm) (argsL := As) (rest := rest) (fun sig h => hn.trans (hlen sig h)) hstack hW (by rw [hb]; exact hdg)
    (fun vm₁ hW₁ => ⟨hf.1, hf.2, hPc (T.setVm vm₁) hT hW₁⟩) with ⟨v, vm₁, ⟨U', l2, c2, s2⟩, hW₁, X', ⟨g', mk, t, L, e1, e2, hq, h1, hL, h2, h3⟩, st⟩ | ⟨q, vm₁, ⟨U', l2, c2, s2⟩, hW₁, X', ⟨g', mk, t, L, E, ce, e1, e2, hq, hce, hcv, hcl, h1, hL, h2, h3⟩, st⟩
  · dsimp only [Pt.U, Pt.locs, Pt.cells, Pt.slots] at X' e1 e2 h1 h2 h3 st
    subst h1; subst h2; subst h3
    exact Or.inl ⟨v, (T.setVm vm₁).calling g' mk (Value.ref b :: As).toArray, t, U', L, hT, X', hL, e1, e2, hq, st⟩
  · dsimp only [Pt.U, Pt.locs, Pt.cells, Pt.slots] at X' e1 e2 h1 h2 h3 st hcl
    subst h1; subst h2; subst h3
    exact Or.inr ⟨q, (T.setVm vm₁).calling g' mk (Value.ref b :: As).toArray, t, U', L, E, ce, hT, X', hL, e1, e2, hq, hce, hcv, vx_cls hW₁ hcl, st⟩
theorem vx_runS (S : CallFix p m c cc nL s args Ts own) (hM : vx_Met l y ws rm Pc Qc XC mc ms free) (cw : CallB R s args own index y bytes maxL ret ws rm mc ms n ∧ (Cond.static y).before args s = true) (hp : PreS s H Pc As)
    (hg : g.method = m) (hn : As.length = n) (hsize : g.locals.size = nL) (hstack : g.stack = As.reverse ++ rest) (hW : 2 * g.monitorRoom + (rest.map fun v => v.category).sum ≤ 8) (hdg : decode cc g.pc = .ok (.invokestatic index, 3)) (hf : cells + mc ≤ R.cells ∧ slots + ms ≤ R.slots) :
    vx_Run p l e R s m args below meth c H locs cells slots mc ms g rest (Qc As.toArray) XC free := by
  have hK : vx_Back l R p e below s args y 3 8 (PreOf R mc ms Pc) (PostOf Qc mc ms free) (vx_Post XC mc ms free) := vx_callBack cw.1 hM hp.1
  obtain ⟨⟨-, -, -, -, -, -, hcode, hini, hy, hlen, hl⟩, hstt⟩ := cw
  obtain ⟨hx, hb, hml, ho, -⟩ := S
  intro T hT X
  rcases vx_callS X hx (bytes := bytes) (maxL := maxL) (ret := ret) ho hl hstt hini hcode hy hK hg (hsize.trans hml.symm) (argsL := As) (rest := rest) (fun sig h => hn.trans (hlen sig h)) hstack hW (by rw [hb]; exact hdg)
    (fun vm₁ hW₁ => ⟨hf.1, hf.2, hp.2 (T.setVm vm₁) hT hW₁⟩) with ⟨v, vm₁, ⟨U', l2, c2, s2⟩, hW₁, X', ⟨g', mk, t, L, e1, e2, hq, h1, hL, h2, h3⟩, st⟩ | ⟨q, vm₁, ⟨U', l2, c2, s2⟩, hW₁, X', ⟨g', mk, t, L, E, ce, e1, e2, hq, hce, hcv, hcl, h1, hL, h2, h3⟩, st⟩
  · dsimp only [Pt.U, Pt.locs, Pt.cells, Pt.slots] at X' e1 e2 h1 h2 h3 st
    subst h1; subst h2; subst h3
    exact Or.inl ⟨v, (T.setVm vm₁).calling g' mk As.toArray, t, U', L, hT, X', hL, e1, e2, hq, st⟩
  · dsimp only [Pt.U, Pt.locs, Pt.cells, Pt.slots] at X' e1 e2 h1 h2 h3 st hcl
    subst h1; subst h2; subst h3
    exact Or.inr ⟨q, (T.setVm vm₁).calling g' mk As.toArray, t, U', L, E, ce, hT, X', hL, e1, e2, hq, hce, hcv, vx_cls hW₁ hcl, st⟩
end Runs
section Rows
variable {p : Program} {l : Launch} {e : Env} {R : Room} {s : State} {m : MethodId} {args : Array Value} {below : List Frame} {meth : Method} {c : Code} {H : Heap} {locs : List Loc} {cells slots : Nat} {Q : State → Prop}
variable {mc ms : Nat} {free : Addr → Prop} {A0 A1 : Nat → Prop} {H0 : Heap} {a : Array Value} {pc : Nat} {ls : Array Slot} {st0 rest : List Value}
theorem vx_keep {st₀ t T' : State} {L : List Loc} (h0 : st₀.heap = H) (e1 : T'.heap = t.heap) (hS : va_S A0 H0 H locs) (hA : ∀ q, q < H.size → A1 q → A0 q) (hf : ∀ q, free q → A0 q) (hL : ∀ q ∈ L, free q.base) (hF : va_F A1 st₀ t) :
    H.size ≤ T'.heap.size ∧ (∀ q : Nat, q < H.size → ¬ A1 q → T'.heap[q]? = H[q]?) ∧ va_S A0 H0 T'.heap (locs ++ L) := by
  obtain ⟨hz, hk⟩ := hF
  rw [h0] at hz hk
  exact ⟨by rw [e1]; exact hz, fun q h1 h2 => by rw [e1]; exact hk q h1 h2,
    ⟨Nat.le_trans hS.1 (by rw [e1]; exact hz), fun q h1 h2 => by rw [e1, hk q (Nat.lt_of_lt_of_le h1 hS.1) (fun z => h2 (hA q (Nat.lt_of_lt_of_le h1 hS.1) z))]; exact hS.2.1 q h1 h2, fun q hq => by
      rcases List.mem_append.mp hq with h | h
      · exact hS.2.2 q h
      · exact hf _ (hL q h)⟩⟩
theorem vx_calli {S SX : Type} {post : Int32 → S → Prop} {px : SX → Prop} {B : S → State → Prop} {BX : String → SX → State → Prop} {AX : Nat → Prop} (hr : vx_Run p l e R s m args below meth c H locs cells slots mc ms (F0 m pc ls st0) rest (va_Qi post B A1 a) (vx_X px BX AX) free) (hS : va_S A0 H0 H locs) (hA : ∀ q, q < H.size → A1 q → A0 q) (hf : ∀ q, free q → A0 q) (hAX : ∀ q, q < H.size → AX q → A0 q)
    (kx : ∀ (E : String) (ce : Cell) (q9 : Addr) (u : SX) (t : State) (H1 : Heap) (locs1 : List Loc), t.heap = H1 → s.vm.Alike t.vm → px u → BX E u t → H.size ≤ H1.size → (∀ q : Nat, q < H.size → ¬ AX q → H1[q]? = H[q]?) → va_S A0 H0 H1 locs1 → H1[q9]? = some ce → ce.vm = .none → s.vm.findClass E = some ce.cls → vx_W p l e R s m args below meth c H1 locs1 (cells + mc) (slots + ms) Q (F0 m pc ls rest) q9)
    (kk : ∀ (r : Int32) (u : S) (t : State) (H1 : Heap) (locs1 : List Loc), t.heap = H1 → s.vm.Alike t.vm → post r u → B u t → H.size ≤ H1.size → (∀ q : Nat, q < H.size → ¬ A1 q → H1[q]? = H[q]?) → va_S A0 H0 H1 locs1 → W p l e R s m args below meth c H1 locs1 (cells + mc) (slots + ms) Q (F0 m (pc + 3) ls (.int r :: rest))) : W p l e R s m args below meth c H locs cells slots Q (F0 m pc ls st0) := by
  intro T hT X
  rcases hr T hT X with ⟨v, st₀, t, T', L, h0, X', hL, e1, e2, ⟨⟨r, u, hv, hp, hb⟩, hF⟩, st⟩ | ⟨q, st₀, t, T', L, E, ce, h0, X', hL, e1, e2, ⟨u, hp, hb, hF⟩, hce, hcv, hcl, st⟩
  · cases hv
    obtain ⟨k1, k2, k3⟩ := vx_keep h0 e1 hS hA hf hL hF
    obtain ⟨t2, a1, b1⟩ := kk r u t T'.heap (locs ++ L) e1.symm (by rw [← e2]; exact X'.warmed.alike) hp hb k1 k2 k3 T' rfl X'
    exact ⟨t2, st t2 a1, b1⟩
  · obtain ⟨k1, k2, k3⟩ := vx_keep h0 e1 hS hAX hf hL hF
    obtain ⟨t2, a1, b1⟩ := kx E ce q u t T'.heap (locs ++ L) e1.symm (by rw [← e2]; exact X'.warmed.alike) hp hb k1 k2 k3 (by rw [e1]; exact hce) hcv hcl T' rfl X'
    exact ⟨t2, st.trans a1, b1⟩
theorem vx_calll {S SX : Type} {post : Int64 → S → Prop} {px : SX → Prop} {B : S → State → Prop} {BX : String → SX → State → Prop} {AX : Nat → Prop} (hr : vx_Run p l e R s m args below meth c H locs cells slots mc ms (F0 m pc ls st0) rest (va_Ql post B A1 a) (vx_X px BX AX) free) (hS : va_S A0 H0 H locs) (hA : ∀ q, q < H.size → A1 q → A0 q) (hf : ∀ q, free q → A0 q) (hAX : ∀ q, q < H.size → AX q → A0 q)
    (kx : ∀ (E : String) (ce : Cell) (q9 : Addr) (u : SX) (t : State) (H1 : Heap) (locs1 : List Loc), t.heap = H1 → s.vm.Alike t.vm → px u → BX E u t → H.size ≤ H1.size → (∀ q : Nat, q < H.size → ¬ AX q → H1[q]? = H[q]?) → va_S A0 H0 H1 locs1 → H1[q9]? = some ce → ce.vm = .none → s.vm.findClass E = some ce.cls → vx_W p l e R s m args below meth c H1 locs1 (cells + mc) (slots + ms) Q (F0 m pc ls rest) q9)
    (kk : ∀ (r : Int64) (u : S) (t : State) (H1 : Heap) (locs1 : List Loc), t.heap = H1 → s.vm.Alike t.vm → post r u → B u t → H.size ≤ H1.size → (∀ q : Nat, q < H.size → ¬ A1 q → H1[q]? = H[q]?) → va_S A0 H0 H1 locs1 → W p l e R s m args below meth c H1 locs1 (cells + mc) (slots + ms) Q (F0 m (pc + 3) ls (.long r :: rest))) : W p l e R s m args below meth c H locs cells slots Q (F0 m pc ls st0) := by
  intro T hT X
  rcases hr T hT X with ⟨v, st₀, t, T', L, h0, X', hL, e1, e2, ⟨⟨r, u, hv, hp, hb⟩, hF⟩, st⟩ | ⟨q, st₀, t, T', L, E, ce, h0, X', hL, e1, e2, ⟨u, hp, hb, hF⟩, hce, hcv, hcl, st⟩
  · cases hv
    obtain ⟨k1, k2, k3⟩ := vx_keep h0 e1 hS hA hf hL hF
    obtain ⟨t2, a1, b1⟩ := kk r u t T'.heap (locs ++ L) e1.symm (by rw [← e2]; exact X'.warmed.alike) hp hb k1 k2 k3 T' rfl X'
    exact ⟨t2, st t2 a1, b1⟩
  · obtain ⟨k1, k2, k3⟩ := vx_keep h0 e1 hS hAX hf hL hF
    obtain ⟨t2, a1, b1⟩ := kx E ce q u t T'.heap (locs ++ L) e1.symm (by rw [← e2]; exact X'.warmed.alike) hp hb k1 k2 k3 (by rw [e1]; exact hce) hcv hcl T' rfl X'
    exact ⟨t2, st.trans a1, b1⟩
theorem vx_callf {S SX : Type} {post : UInt32 → S → Prop} {px : SX → Prop} {B : S → State → Prop} {BX : String → SX → State → Prop} {AX : Nat → Prop} (hr : vx_Run p l e R s m args below meth c H locs cells slots mc ms (F0 m pc ls st0) rest (va_Qf post B A1 a) (vx_X px BX AX) free) (hS : va_S A0 H0 H locs) (hA : ∀ q, q < H.size → A1 q → A0 q) (hf : ∀ q, free q → A0 q) (hAX : ∀ q, q < H.size → AX q → A0 q)
    (kx : ∀ (E : String) (ce : Cell) (q9 : Addr) (u : SX) (t : State) (H1 : Heap) (locs1 : List Loc), t.heap = H1 → s.vm.Alike t.vm → px u → BX E u t → H.size ≤ H1.size → (∀ q : Nat, q < H.size → ¬ AX q → H1[q]? = H[q]?) → va_S A0 H0 H1 locs1 → H1[q9]? = some ce → ce.vm = .none → s.vm.findClass E = some ce.cls → vx_W p l e R s m args below meth c H1 locs1 (cells + mc) (slots + ms) Q (F0 m pc ls rest) q9)
    (kk : ∀ (r : UInt32) (u : S) (t : State) (H1 : Heap) (locs1 : List Loc), t.heap = H1 → s.vm.Alike t.vm → post r u → B u t → H.size ≤ H1.size → (∀ q : Nat, q < H.size → ¬ A1 q → H1[q]? = H[q]?) → va_S A0 H0 H1 locs1 → W p l e R s m args below meth c H1 locs1 (cells + mc) (slots + ms) Q (F0 m (pc + 3) ls (.float r :: rest))) : W p l e R s m args below meth c H locs cells slots Q (F0 m pc ls st0) := by
  intro T hT X
  rcases hr T hT X with ⟨v, st₀, t, T', L, h0, X', hL, e1, e2, ⟨⟨r, u, hv, hp, hb⟩, hF⟩, st⟩ | ⟨q, st₀, t, T', L, E, ce, h0, X', hL, e1, e2, ⟨u, hp, hb, hF⟩, hce, hcv, hcl, st⟩
  · cases hv
    obtain ⟨k1, k2, k3⟩ := vx_keep h0 e1 hS hA hf hL hF
    obtain ⟨t2, a1, b1⟩ := kk r u t T'.heap (locs ++ L) e1.symm (by rw [← e2]; exact X'.warmed.alike) hp hb k1 k2 k3 T' rfl X'
    exact ⟨t2, st t2 a1, b1⟩
  · obtain ⟨k1, k2, k3⟩ := vx_keep h0 e1 hS hAX hf hL hF
    obtain ⟨t2, a1, b1⟩ := kx E ce q u t T'.heap (locs ++ L) e1.symm (by rw [← e2]; exact X'.warmed.alike) hp hb k1 k2 k3 (by rw [e1]; exact hce) hcv hcl T' rfl X'
    exact ⟨t2, st.trans a1, b1⟩
theorem vx_calld {S SX : Type} {post : UInt64 → S → Prop} {px : SX → Prop} {B : S → State → Prop} {BX : String → SX → State → Prop} {AX : Nat → Prop} (hr : vx_Run p l e R s m args below meth c H locs cells slots mc ms (F0 m pc ls st0) rest (va_Qd post B A1 a) (vx_X px BX AX) free) (hS : va_S A0 H0 H locs) (hA : ∀ q, q < H.size → A1 q → A0 q) (hf : ∀ q, free q → A0 q) (hAX : ∀ q, q < H.size → AX q → A0 q)
    (kx : ∀ (E : String) (ce : Cell) (q9 : Addr) (u : SX) (t : State) (H1 : Heap) (locs1 : List Loc), t.heap = H1 → s.vm.Alike t.vm → px u → BX E u t → H.size ≤ H1.size → (∀ q : Nat, q < H.size → ¬ AX q → H1[q]? = H[q]?) → va_S A0 H0 H1 locs1 → H1[q9]? = some ce → ce.vm = .none → s.vm.findClass E = some ce.cls → vx_W p l e R s m args below meth c H1 locs1 (cells + mc) (slots + ms) Q (F0 m pc ls rest) q9)
    (kk : ∀ (r : UInt64) (u : S) (t : State) (H1 : Heap) (locs1 : List Loc), t.heap = H1 → s.vm.Alike t.vm → post r u → B u t → H.size ≤ H1.size → (∀ q : Nat, q < H.size → ¬ A1 q → H1[q]? = H[q]?) → va_S A0 H0 H1 locs1 → W p l e R s m args below meth c H1 locs1 (cells + mc) (slots + ms) Q (F0 m (pc + 3) ls (.double r :: rest))) : W p l e R s m args below meth c H locs cells slots Q (F0 m pc ls st0) := by
  intro T hT X
  rcases hr T hT X with ⟨v, st₀, t, T', L, h0, X', hL, e1, e2, ⟨⟨r, u, hv, hp, hb⟩, hF⟩, st⟩ | ⟨q, st₀, t, T', L, E, ce, h0, X', hL, e1, e2, ⟨u, hp, hb, hF⟩, hce, hcv, hcl, st⟩
  · cases hv
    obtain ⟨k1, k2, k3⟩ := vx_keep h0 e1 hS hA hf hL hF
    obtain ⟨t2, a1, b1⟩ := kk r u t T'.heap (locs ++ L) e1.symm (by rw [← e2]; exact X'.warmed.alike) hp hb k1 k2 k3 T' rfl X'
    exact ⟨t2, st t2 a1, b1⟩
  · obtain ⟨k1, k2, k3⟩ := vx_keep h0 e1 hS hAX hf hL hF
    obtain ⟨t2, a1, b1⟩ := kx E ce q u t T'.heap (locs ++ L) e1.symm (by rw [← e2]; exact X'.warmed.alike) hp hb k1 k2 k3 (by rw [e1]; exact hce) hcv hcl T' rfl X'
    exact ⟨t2, st.trans a1, b1⟩
theorem vx_callv {S SX : Type} {post : S → Prop} {px : SX → Prop} {B : S → State → Prop} {BX : String → SX → State → Prop} {AX : Nat → Prop} (hr : vx_Run p l e R s m args below meth c H locs cells slots mc ms (F0 m pc ls st0) rest (va_Qv post B A1 a) (vx_X px BX AX) free) (hS : va_S A0 H0 H locs) (hA : ∀ q, q < H.size → A1 q → A0 q) (hf : ∀ q, free q → A0 q) (hAX : ∀ q, q < H.size → AX q → A0 q)
    (kx : ∀ (E : String) (ce : Cell) (q9 : Addr) (u : SX) (t : State) (H1 : Heap) (locs1 : List Loc), t.heap = H1 → s.vm.Alike t.vm → px u → BX E u t → H.size ≤ H1.size → (∀ q : Nat, q < H.size → ¬ AX q → H1[q]? = H[q]?) → va_S A0 H0 H1 locs1 → H1[q9]? = some ce → ce.vm = .none → s.vm.findClass E = some ce.cls → vx_W p l e R s m args below meth c H1 locs1 (cells + mc) (slots + ms) Q (F0 m pc ls rest) q9)
    (kk : ∀ (u : S) (t : State) (H1 : Heap) (locs1 : List Loc), t.heap = H1 → s.vm.Alike t.vm → post u → B u t → H.size ≤ H1.size → (∀ q : Nat, q < H.size → ¬ A1 q → H1[q]? = H[q]?) → va_S A0 H0 H1 locs1 → W p l e R s m args below meth c H1 locs1 (cells + mc) (slots + ms) Q (F0 m (pc + 3) ls (rest))) : W p l e R s m args below meth c H locs cells slots Q (F0 m pc ls st0) := by
  intro T hT X
  rcases hr T hT X with ⟨v, st₀, t, T', L, h0, X', hL, e1, e2, ⟨⟨u, hv, hp, hb⟩, hF⟩, st⟩ | ⟨q, st₀, t, T', L, E, ce, h0, X', hL, e1, e2, ⟨u, hp, hb, hF⟩, hce, hcv, hcl, st⟩
  · cases hv
    obtain ⟨k1, k2, k3⟩ := vx_keep h0 e1 hS hA hf hL hF
    obtain ⟨t2, a1, b1⟩ := kk u t T'.heap (locs ++ L) e1.symm (by rw [← e2]; exact X'.warmed.alike) hp hb k1 k2 k3 T' rfl X'
    exact ⟨t2, st t2 a1, b1⟩
  · obtain ⟨k1, k2, k3⟩ := vx_keep h0 e1 hS hAX hf hL hF
    obtain ⟨t2, a1, b1⟩ := kx E ce q u t T'.heap (locs ++ L) e1.symm (by rw [← e2]; exact X'.warmed.alike) hp hb k1 k2 k3 (by rw [e1]; exact hce) hcv hcl T' rfl X'
    exact ⟨t2, st.trans a1, b1⟩
/-- caught by the row x of this method's table; the rows ahead don't take it -/
theorem vx_catch {own name : String} {E : String} {ce : Cell} {q : Addr} (hown : s.vm.findClass own = some m.cls) (pre : List ExceptionTableEntry) (x : ExceptionTableEntry) (suf : List ExceptionTableEntry) (hsplit : c.exceptionTable.toList = pre ++ x :: suf)
    (hpass : ∀ z ∈ pre, covers z pc = false ∨ (z.catchType ≠ 0 ∧ ∃ nm : String, (Cond.classLink own z.catchType nm).before args s = true ∧ va_Nc E nm s)) (hx : covers x pc = true) (h0 : x.catchType ≠ 0)
    (hlink : (Cond.classLink own x.catchType name).before args s = true) (hcast : (Cond.castable E name).before args s = true) (hcell : H[q]? = some ce) (hv : ce.vm = .none) (hcl : s.vm.findClass E = some ce.cls)
    (kk : W p l e R s m args below meth c H locs cells slots Q (F0 m x.handlerPc ls [.ref q])) : vx_W p l e R s m args below meth c H locs cells slots Q (F0 m pc ls rest) q := by
  intro T hT X
  have hpl : e.platform.magicAccessors = ({} : Platform).magicAccessors := by rw [X.admits.platform]
  obtain ⟨c3, c4, hc3, hc4, hasg⟩ := Cond.castable_spec hcast
  cases Option.some.inj (hc3.symm.trans hcl)
  obtain ⟨c5, hc5, hcl5⟩ := Cond.classLink_spec hown hlink e.platform hpl
  cases Option.some.inj (hc4.symm.trans hc5)
  obtain ⟨vm', X', st⟩ := X.thenCaughtThrough q (g := F0 m pc ls rest) rfl (Steps.refl _) (by rw [hT]; exact hcell) (by rw [hv]; rfl) (by obtain ⟨k9, h9, -⟩ := Vm.findClass_spec hcl; exact ⟨k9, h9⟩) pre x suf hsplit
    (fun z hz => by
      rcases hpass z hz with h | ⟨hz0, nm, hl1, hn1⟩
      · exact Or.inl h
      · obtain ⟨c6, hc6, hcl6⟩ := Cond.classLink_spec hown hl1 e.platform hpl
        obtain ⟨a8, b8, h1, h2, h3⟩ := hn1
        cases Option.some.inj (h1.symm.trans hcl)
        cases Option.some.inj (h2.symm.trans hc6)
        exact Or.inr ⟨hz0, _, hcl6, h3⟩) hx (Or.inr ⟨h0, c4, hcl5, hasg⟩)
  obtain ⟨t, a1, b1⟩ := kk (T.setVm vm') hT X'
  exact ⟨t, st.trans a1, b1⟩
end Rows
section Ends
variable {p : Program} {l : Launch} {e : Env} {R : Room} {s : State} {m : MethodId} {args : Array Value} {below : List Frame} {meth : Method} {c : Code} {H : Heap} {locs : List Loc} {cells slots : Nat} {Q : State → Prop}
variable {mc ms : Nat} {free : Addr → Prop} {A0 A1 : Nat → Prop} {H0 : Heap} {a : Array Value} {ls : Array Slot} {st0 rest : List Value}
variable {Qc : Array Value → State → Outcome → State → Prop} {XC : String → State → State → Prop}
/-- what a body that may throw owes at its end -/
def vx_MQ (below : List Frame) (Qc : Array Value → State → Outcome → State → Prop) (XC : String → State → State → Prop) (a : Array Value) (s : State) (mc ms : Nat) (free : Addr → Prop) : State → Prop := fun t =>
  ∃ o, t.status = .running ∧ Ended t below o ∧ vx_Q Qc XC mc ms free a s o t
theorem vx_ret {g : JFrame} {mc ms : Nat} (k : W p l e R s m args below meth c H locs cells slots (MQ below Qc args s mc ms free) g) : W p l e R s m args below meth c H locs cells slots (vx_MQ below Qc XC args s mc ms free) g := by
  intro T hT X
  obtain ⟨t, a1, o, b1, b2, b3, b4⟩ := k T hT X
  exact ⟨t, a1, o, b1, b2, Or.inl ⟨b3, b4⟩⟩
/-- not caught here: it goes on to the caller -/
theorem vx_widen {g : JFrame} {q : Addr} {k n : Nat} (h1 : cells ≤ k) (h2 : slots ≤ n) (kk : vx_W p l e R s m args below meth c H locs k n Q g q) : vx_W p l e R s m args below meth c H locs cells slots Q g q := fun T hT X => kk T hT (stand_widen X h1 h2)
theorem vx_out {pc : Nat} {E : String} {ce : Cell} {q : Addr} {mc ms : Nat} (hout : ∀ x ∈ c.exceptionTable.toList, covers x pc = false) (hlocks : meth.locks = false) (hcell : H[q]? = some ce) (hv : ce.vm = .none) (hcl : s.vm.findClass E = some ce.cls)
    (hx : ∀ t : State, t.heap = H → s.vm.Alike t.vm → XC E s t) (hf : ∀ z ∈ locs, free z.base) (hc : cells ≤ mc) (hs : slots ≤ ms) :
    vx_W p l e R s m args below meth c H locs cells slots (vx_MQ below Qc XC args s mc ms free) (F0 m pc ls rest) q := by
  intro T hT X
  obtain ⟨st1, hrun, hend, hW, hsm⟩ := X.leaveThrown q (g := F0 m pc ls rest) rfl rfl rfl hout hlocks
  have hcell9 : (T.setFrames (.throwing q :: below)).heap[q]? = some ce := by
    show T.heap[q]? = some ce
    rw [hT]; exact hcell
  exact ⟨_, st1, .threw q, hrun, hend, Or.inr ⟨q, rfl, E, ce, locs, hx _ hT hW.alike, hcell9, hv, hcl, hW, hsm.mono hc hs, hf⟩⟩
theorem vx_frame {U : State} {k n : Nat} (h : s.sameButNew ({ U with vm := s.vm } : State) locs k n) : s.heap.size ≤ U.heap.size ∧ ∀ q : Nat, q < s.heap.size → (∀ z ∈ locs, z.base ≠ q) → U.heap[q]? = s.heap[q]? := by
  obtain ⟨-, h2, -, -, -, h6⟩ := h
  refine ⟨h2, fun q hq hz => ?_⟩
  obtain ⟨c9, e1, e2, e3, e4⟩ := h6 q _ (Array.getElem?_eq_getElem hq)
  have hs : c9.slots = (s.heap[q]).slots := Array.ext_getElem? fun i => e4 i fun hm => hz _ hm rfl
  have h9 : c9 = s.heap[q] := by
    rw [hs] at e2
    exact e2
  have e5 : U.heap[q]? = some c9 := e1
  rw [e5, h9, Array.getElem?_eq_getElem hq]
/-- the words of a throw but the four that speak of the heap -/
def vx_no (w : Cond) : Bool := decide (w ≠ .isRef (.static Bundle.tN "UNASSIGNED_STACK" Bundle.steD)) && decide (w ≠ .isRef (.static Bundle.tN "SUPPRESSED_SENTINEL" Bundle.listD)) && decide (w ≠ .laysStatic Bundle.tN "UNASSIGNED_STACK" Bundle.steD) && decide (w ≠ .laysStatic Bundle.tN "SUPPRESSED_SENTINEL" Bundle.listD)
def vx_at0 (own : String) (ic : Nat) (X : String) (names : List String) : List Cond := (Bundle.ownAtoms0 own ic X names).filter vx_no
def vx_atS (own : String) (ic : Nat) (X : String) (names : List String) : List Cond := (Bundle.ownAtoms own ic X names).filter vx_no
/-- a word that the tables alone decide, or a good one -/
def vx_ot (w : Cond) : Bool := w.onTables || goodWord w
theorem vx_ot_at {args a' : Array Value} {s U : State} {w : Cond} (hW : s.WarmedH U.vm) (hvm : s.vm = U.vm) (hg : vx_ot w = true) (h : w.before args s = true) : w.before a' U = true := by
  simp only [vx_ot, Bool.or_eq_true] at hg
  rcases hg with hg | hg
  · exact va_tabs hg hvm h
  · exact word_at hW (good_of_word hg) h
/-- a list's words: the good ones out of the method's own list, the others by premises of their own -/
theorem vx_hat {args : Array Value} {s : State} {L B : List Cond} (h1 : ∀ w ∈ L.filter goodWord, w.before args s = true) (h2 : ∀ w ∈ L.filter (fun w => !goodWord w), w ∈ B) (h3 : ∀ w ∈ B, w.before args s = true) : ∀ w ∈ L, w.before args s = true := by
  intro w hw
  by_cases g : goodWord w = true
  · exact h1 w (List.mem_filter.mpr ⟨hw, g⟩)
  · refine h3 w (h2 w (List.mem_filter.mpr ⟨hw, ?_⟩))
    show (!goodWord w) = true
    cases hgw : goodWord w
    · rfl
    · exact absurd hgw g
theorem vx_c {args : Array Value} {s : State} {w : Cond} {B : List Cond} (h : w.before args s = true) (t : ∀ w ∈ B, w.before args s = true) : ∀ w' ∈ w :: B, w'.before args s = true := fun w' h' => (List.mem_cons.mp h').elim (fun e => by rw [e]; exact h) (t w')
theorem vx_n {args : Array Value} {s : State} : ∀ w ∈ ([] : List Cond), w.before args s = true := fun _ h => nomatch h
theorem vx_own {args : Array Value} {s : State} {L : List Cond} (h1 : ∀ w ∈ L.filter vx_no, w.before args s = true)
    (hU : (Cond.isRef (.static Bundle.tN "UNASSIGNED_STACK" Bundle.steD)).before args s = true) (hN : (Cond.isRef (.static Bundle.tN "SUPPRESSED_SENTINEL" Bundle.listD)).before args s = true)
    (lU : (Cond.laysStatic Bundle.tN "UNASSIGNED_STACK" Bundle.steD).before args s = true) (lN : (Cond.laysStatic Bundle.tN "SUPPRESSED_SENTINEL" Bundle.listD).before args s = true) : ∀ w ∈ L, w.before args s = true := by
  intro w hw
  by_cases e1 : w = .isRef (.static Bundle.tN "UNASSIGNED_STACK" Bundle.steD)
  · rw [e1]; exact hU
  · by_cases e2 : w = .isRef (.static Bundle.tN "SUPPRESSED_SENTINEL" Bundle.listD)
    · rw [e2]; exact hN
    · by_cases e3 : w = .laysStatic Bundle.tN "UNASSIGNED_STACK" Bundle.steD
      · rw [e3]; exact lU
      · by_cases e4 : w = .laysStatic Bundle.tN "SUPPRESSED_SENTINEL" Bundle.listD
        · rw [e4]; exact lN
        · exact h1 w (List.mem_filter.mpr ⟨hw, by unfold vx_no; rw [decide_eq_true e1, decide_eq_true e2, decide_eq_true e3, decide_eq_true e4]; rfl⟩)
/-- where a static field lies, its class's statics cell in H -/
def vx_L (C n d : String) (A : Nat → Prop) (U : State) (H : Heap) : Prop := ∃ (c : ClassId) (k : Class) (i : Nat) (f : Field) (a : Nat) (cell : Cell), U.vm.findClass C = some c ∧ U.fieldFound? C n d = some (c, k, i, f) ∧ f.isStatic = true ∧ k.statics = some a ∧ H[a]? = some cell ∧ cell.vm.isStatics = true ∧ cell.cls = c ∧ f.slot < cell.slots.size ∧ k.staticTypes[f.slot]? = some f.type ∧ ¬ A a
theorem vx_L.moved {C n d : String} {A : Nat → Prop} {u U : State} {H : Heap} (hvm : u.vm.Alike U.vm) (h : vx_L C n d A u H) : vx_L C n d A U H := by
  obtain ⟨c, k, i, f, a, cell, h1, h2, h3, h4, h5, h6, h7, h8, h9, h10⟩ := h
  obtain ⟨k', hi', he⟩ := State.fieldFound?_setVm hvm h2
  exact ⟨c, k', i, f, a, cell, by rw [hvm.findClass]; exact h1, hi', h3, by rw [he]; exact h4, h5, h6, h7, h8, by rw [he]; exact h9, h10⟩
theorem vx_L.kept {C n d : String} {A : Nat → Prop} {U : State} {H H1 : Heap} (h : vx_L C n d A U H) (hq : ∀ a : Nat, a < H.size → ¬ A a → H1[a]? = H[a]?) : vx_L C n d A U H1 := by
  obtain ⟨c, k, i, f, a, cell, h1, h2, h3, h4, h5, h6, h7, h8, h9, h10⟩ := h
  exact ⟨c, k, i, f, a, cell, h1, h2, h3, h4, by rw [hq a (Array.getElem?_eq_some_iff.mp h5).1 h10]; exact h5, h6, h7, h8, h9, h10⟩
theorem vx_L.narrow {C n d : String} {A B : Nat → Prop} {U : State} {H : Heap} (h : vx_L C n d A U H) (hAB : ∀ q, B q → A q) : vx_L C n d B U H := by
  obtain ⟨c, k, i, f, a, cell, h1, h2, h3, h4, h5, h6, h7, h8, h9, h10⟩ := h
  exact ⟨c, k, i, f, a, cell, h1, h2, h3, h4, h5, h6, h7, h8, h9, fun z => h10 (hAB _ z)⟩
theorem vx_L.word {C n d : String} {A : Nat → Prop} {s : State} {args : Array Value} (h : vx_L C n d A s s.heap) : (Cond.laysStatic C n d).before args s = true := by
  obtain ⟨c, k, i, f, a, cell, h1, h2, h3, h4, h5, h6, h7, h8, h9, -⟩ := h
  show (Cond.laysStatic C n d).holds args s none s [] = true
  exact Cond.laysStatic_of h1 h2 h3 h4 h5 h6 h7 h8 h9
/-- .. and what it holds: null or some reference -/
def vx_Zq (C n d : String) (A : Nat → Prop) (U : State) (H : Heap) : Prop := va_Zq C n d A U H ∧ vx_L C n d A U H
theorem vx_Zq.moved {C n d : String} {A : Nat → Prop} {u U : State} {H : Heap} (hvm : u.vm.Alike U.vm) (h : vx_Zq C n d A u H) : vx_Zq C n d A U H := ⟨va_Zq.moved hvm h.1, vx_L.moved hvm h.2⟩
theorem vx_Zq.kept {C n d : String} {A : Nat → Prop} {U : State} {H H1 : Heap} (h : vx_Zq C n d A U H) (hq : ∀ a : Nat, a < H.size → ¬ A a → H1[a]? = H[a]?) : vx_Zq C n d A U H1 := ⟨va_Zq.kept h.1 hq, vx_L.kept h.2 hq⟩
theorem vx_Zq.narrow {C n d : String} {A B : Nat → Prop} {U : State} {H : Heap} (h : vx_Zq C n d A U H) (hAB : ∀ q, B q → A q) : vx_Zq C n d B U H := ⟨va_Zq.narrow h.1 hAB, vx_L.narrow h.2 hAB⟩
theorem vx_Zqof {args : Array Value} {s : State} {C n d : String} {A : Nat → Prop} (hl : (Cond.laysStatic C n d).before args s = true) (hini : (Cond.initialized C).before args s = true) (h : (Cond.isRef (.static C n d)).before args s = true) (hA : ∀ a : Nat, a < s.heap.size → ¬ A a) : vx_Zq C n d A s s.heap := by
  refine ⟨va_Zqof hl hini h hA, ?_⟩
  obtain ⟨c, k, i, f, a, cell, h1, h2, h3, h4, h5, h6, h7, h8, h9⟩ := Cond.laysStatic_spec hl
  exact ⟨c, k, i, f, a, cell, h1, h2, h3, h4, h5, h6, h7, h8, h9, hA a (Array.getElem?_eq_some_iff.mp h5).1⟩
theorem vx_isRef {C n d : String} {v : Value} {A : Nat → Prop} {s : State} {args : Array Value} (h : va_Z C n d v A s s.heap) (hv : v.isRef = true) : (Cond.isRef (.static C n d)).before args s = true := by
  obtain ⟨cf, kf, fi, f, a, cell, h1, h2, h3, h4, h5, h6, h7, -⟩ := h
  have he : (Term.static C n d).eval args s none [] s = some v := by
    simp [Term.eval, State.fieldNamed?, h1, h2, h4, h5, h6, h7]
  simp only [Cond.before, Cond.holds, Cond.value, he]
  cases v <;> simp_all [Value.isRef]
theorem vx_isRefq {C n d : String} {A : Nat → Prop} {s : State} {args : Array Value} (h : va_Zq C n d A s s.heap) : (Cond.isRef (.static C n d)).before args s = true := by
  rcases h with h | ⟨t, h⟩
  · exact vx_isRef h rfl
  · exact vx_isRef h rfl
/-- the same frame, seen from here: as if the method were called anew in this heap -/
theorem vx_rebase {T : State} (X : Stand p l e R s m args below meth c T locs cells slots) {R' : Room} (hf : R'.frames ≤ R.frames) (hl : R'.locals ≤ R.locals) (hc : cells + R'.cells ≤ R.cells) (hs : slots + R'.slots ≤ R.slots) :
    Stand p l e R' ((T.setVm s.vm).setFrames (.invoking m args :: below)) m args below meth c T [] 0 0 := by
  have htop : (T.setVm s.vm).topJava?.isSome := X.here.top
  have hF : ((T.setVm s.vm).setFrames (.invoking m args :: below)).frames = .invoking m args :: below := State.frames_setFrames _ (State.cur_lt_of_top htop)
  obtain ⟨g₀, hg0⟩ := Option.isSome_iff_exists.mp htop
  obtain ⟨r, hr⟩ := State.topJava?_eq_some.mp hg0
  have hl9 : e.platform.stackLimits (T.setVm s.vm).me = e.platform.stackLimits s.me := X.limits
  have hb9 : (T.setVm s.vm).me.stackBytes = s.me.stackBytes := X.bytes
  refine ⟨X.admits, X.cas, X.clock, hF, ?_, X.hears, X.method, X.code, X.here, X.tail, X.warmed, ?_, ?_, ?_⟩
  · have h := X.room
    have hU : ((T.setVm s.vm).setFrames (.invoking m args :: below)).localsInUse = s.localsInUse := by
      rw [State.localsInUse_invoking hF (meth := meth) (c := c) X.method X.code, State.localsInUse_invoking X.frames X.method X.code]
    simp only [State.hasRoom, Bool.and_eq_true, decide_eq_true_eq] at h ⊢
    obtain ⟨⟨⟨⟨h1, h2, h3, h4, h5, h6⟩, h7⟩, h8⟩, h9⟩ := h
    rw [X.frames, List.length_cons] at h2 h3
    have q1 := X.heapSize
    have q2 := X.used
    simp only [hF, hU, List.length_cons, State.stackLimits_setFrames, State.stackBytes_setFrames, hl9, hb9]
    refine ⟨⟨⟨⟨by omega, by omega, by omega, by omega, by omega, h6⟩, ?_⟩, ?_⟩, X.book⟩
    · show T.heap.size + R'.cells ≤ e.platform.maxCells
      omega
    · show T.slotsUsed + R'.slots ≤ e.platform.maxSlots
      omega
  · rw [State.stackLimits_setFrames]; rfl
  · rw [State.stackBytes_setFrames]; rfl
  · refine ⟨?_, Nat.le_refl _, Nat.le_refl _, ?_, ?_, fun a c9 h9 => ⟨c9, h9, rfl, rfl, fun _ _ => rfl⟩⟩
    · obtain ⟨t, ht, -⟩ := State.frames_cons hr
      show T.setVm s.vm = { ((T.setVm s.vm).setFrames (.invoking m args :: below)).setFrames (T.setVm s.vm).frames with heap := T.heap, slotsUsed := T.slotsUsed }
      rw [State.setFrames_setFrames, State.setFrames_self ht]
      rfl
    · show T.slotsUsed = T.slotsUsed + ((T.heap.toList.drop T.heap.size).map (·.slots.size)).sum
      rw [List.drop_eq_nil_of_le (Nat.le_of_eq Array.length_toList)]
      rfl
    · show ((T.heap.toList.drop T.heap.size).map (·.slots.size)).sum ≤ 0
      rw [List.drop_eq_nil_of_le (Nat.le_of_eq Array.length_toList)]
      exact Nat.le_refl _
/-- 'throw new E()': new; dup; invokespecial; athrow -/
theorem vx_throw0 {cc : ByteArray} {pc : Nat} (hexec : p.tables.exec = Jvm.exec) (hb : c.code = cc) (hl : l.stackTraces = false) {own cls : String} {names : List String} {ik ic mc ms : Nat} {A : Nat → Prop}
    (hown : s.vm.findClass own = some m.cls) (hcls : Bundle.fit cls = true) (hnames : ∀ n ∈ names, Bundle.fit n = true)
    (hk : (Cond.classLink own ik cls).before args s = true) (hini : (Cond.initialized cls).before args s = true) (hat : ∀ w ∈ vx_at0 own ic cls names, w.before args s = true)
    (hgood : ∀ w ∈ Cond.classLink own ik cls :: Cond.initialized cls :: vx_at0 own ic cls names, vx_ot w = true)
    (hU : vx_Zq Bundle.tN "UNASSIGNED_STACK" Bundle.steD A s s.heap) (hN : vx_Zq Bundle.tN "SUPPRESSED_SENTINEL" Bundle.listD A s s.heap) (hS : va_S A s.heap H locs) (hsize : ls.size = c.maxLocals)
    (d0 : decode cc pc = .ok (.new ik, 3)) (d3 : decode cc (pc + 3) = .ok (.dup, 1)) (d4 : decode cc (pc + 4) = .ok (.invokespecial ic, 3)) (d7 : decode cc (pc + 7) = .ok (.athrow, 1))
    (hout : ∀ x ∈ c.exceptionTable.toList, covers x (pc + 7) = false)
    (hRframes : names.length + 3 < R.frames) (hRlocals : (rest.map fun v => v.category).sum + (13 * (names.length + 1) + 42) ≤ R.locals) (hRcells : cells + 1 ≤ R.cells) (hRslots : slots + 6 ≤ R.slots) (hlocks : meth.locks = false)
    (hx : ∀ t : State, s.vm.Alike t.vm → H.size ≤ t.heap.size → (∀ q : Nat, q < H.size → t.heap[q]? = H[q]?) → XC cls s t)
    (hf : ∀ z ∈ locs, free z.base) (hc : cells + 1 ≤ mc) (hs : slots + 6 ≤ ms) :
    W p l e R s m args below meth c H locs cells slots (vx_MQ below Qc XC args s mc ms free) (F0 m pc ls rest) := by
  intro T hT X
  have htr : e.platform.stackTraces = false := (show e.platform.stackTraces = l.stackTraces by rw [X.admits.platform]).trans hl
  have Y := vx_rebase X (R' := { frames := R.frames, locals := R.locals, cells := 1, slots := 6 }) (Nat.le_refl _) (Nat.le_refl _) hRcells hRslots
  obtain ⟨s', hA⟩ : ∃ z, z = (T.setVm s.vm).setFrames (.invoking m args :: below) := ⟨_, rfl⟩
  rw [← hA] at Y
  have hvm : s'.vm = s.vm := by rw [hA]; rfl
  have hhp : s'.heap = H := by rw [hA]; exact hT
  have hW0 : s.WarmedH s'.vm := by rw [hvm]; exact State.WarmedH.refl s
  have hat' : ∀ w ∈ vx_at0 own ic cls names, w.before args s' = true := fun w hw => vx_ot_at hW0 hvm.symm (hgood w (List.mem_cons_of_mem _ (List.mem_cons_of_mem _ hw))) (hat w hw)
  have hk' : (Cond.classLink own ik cls).before args s' = true := vx_ot_at hW0 hvm.symm (hgood _ List.mem_cons_self) hk
  have hini' : (Cond.initialized cls).before args s' = true := vx_ot_at hW0 hvm.symm (hgood _ (List.mem_cons_of_mem _ List.mem_cons_self)) hini
  have hU' : vx_Zq Bundle.tN "UNASSIGNED_STACK" Bundle.steD A s' s'.heap := by rw [hhp]; exact vx_Zq.moved hW0.alike (hU.kept hS.2.1)
  have hN' : vx_Zq Bundle.tN "SUPPRESSED_SENTINEL" Bundle.listD A s' s'.heap := by rw [hhp]; exact vx_Zq.moved hW0.alike (hN.kept hS.2.1)
  have h : ∀ w ∈ Bundle.ownAtoms0 own ic cls names, w.before args s' = true := vx_own hat' (vx_isRefq hU'.1) (vx_isRefq hN'.1) hU'.2.word hN'.2.word
  have hown' : s'.vm.findClass own = some m.cls := by rw [hvm]; exact hown
  have hins : (Cond.instantiable cls 6).before args s' = true := h _ (by simp [Bundle.ownAtoms0])
  obtain ⟨vm₁, cX, kX, hfX, hkX, -, -, X₁, st1⟩ := Y.newCold hexec (own := own) (C := cls) (index := ik) (n := 6) hown' hk' hins hini'
    (g := F0 m pc ls rest) rfl (by rw [hb]; exact d0) (Nat.le_refl _) (Nat.le_refl _)
  generalize hT1 : (T.setVm vm₁).pushCell { cls := cX, slots := kX.instanceTypes.map defaultValue, vm := .none } = T1 at X₁ st1
  have hcat : (Value.ref T.heap.size).category = 1 := rfl
  have hcellA : T1.heap[T.heap.size]? = some (freshCell cX kX) := by rw [← hT1]; exact State.heap_pushCell_size _ _
  have d3' : decode c.code (pc + 3) = .ok (.dup, 1) := by rw [hb]; exact d3
  obtain ⟨U, hsteps, hrun, hend, hW, hsame, ce, hce, hO⟩ := X₁.ctorThrow0 hexec htr (own := own) (cls := cls) (names := names) (ic := ic) hown' hcls hnames h (fun x hx => nomatch hx) hfX hkX hcellA (by rw [hhp, hT]; exact Nat.le_refl _)
    (g := { method := m, pc := pc + 4, locals := ls, stack := .ref T.heap.size :: .ref T.heap.size :: rest, locked := none }) rfl hsize rfl rfl (rest := rest) rfl
    (by rw [hb]; exact d4) (by rw [hb]; exact d7) hout hRframes (by simp only [List.map_cons, List.sum_cons, hcat]; omega) hlocks
  obtain ⟨f1, f2⟩ := vx_frame hsame
  rw [hhp] at f1 f2
  have hWs : s.WarmedH U.vm := State.WarmedH.trans hW0 hW
  have hcl : s.vm.findClass cls = some ce.cls := by
    have h9 := hO.cls
    rw [hvm] at h9
    exact h9
  have hall : s.sameButNew ({ U with vm := s.vm } : State) locs mc ms := by
    subst hA
    obtain ⟨e1, e2⟩ := hsame
    rw [State.setFrames_setFrames] at e1
    have h2 : (T.setVm s.vm).sameButNew ({ U with vm := s.vm } : State) [] (0 + 1) (0 + 6) := ⟨e1, e2⟩
    have h3 := X.same.trans h2
    rw [List.append_nil] at h3
    exact h3.mono hc hs
  refine ⟨U, ?_, .threw T.heap.size, hrun, hend, Or.inr ⟨T.heap.size, rfl, cls, ce, locs, hx U hWs.alike f1 (fun q hq => f2 q hq (fun z hz => nomatch hz)), hce, hO.vm, hcl, hWs, hall, hf⟩⟩
  refine st1 _ ?_
  show Steps p.tables e below (T1.setTop { method := m, pc := pc + 3, locals := ls, stack := .ref T.heap.size :: rest, locked := none }) _
  jvm_step X₁.here [X₁.here.top, hexec, d3', Value.category]
  exact hsteps
/-- 'throw new E("text")': new; dup; ldc; invokespecial; athrow -/
theorem vx_throwS {cc : ByteArray} {pc : Nat} (hexec : p.tables.exec = Jvm.exec) (hb : c.code = cc) (hl : l.stackTraces = false) {own cls text : String} {names : List String} {ik is ic mc ms sa : Nat} {A : Nat → Prop}
    (hown : s.vm.findClass own = some m.cls) (hcls : Bundle.fit cls = true) (hnames : ∀ n ∈ names, Bundle.fit n = true)
    (hk : (Cond.classLink own ik cls).before args s = true) (hini : (Cond.initialized cls).before args s = true) (hstr : vk_R own is text sa s) (hat : ∀ w ∈ vx_atS own ic cls names, w.before args s = true)
    (hgood : ∀ w ∈ Cond.classLink own ik cls :: Cond.initialized cls :: vx_atS own ic cls names, vx_ot w = true)
    (hU : vx_Zq Bundle.tN "UNASSIGNED_STACK" Bundle.steD A s s.heap) (hN : vx_Zq Bundle.tN "SUPPRESSED_SENTINEL" Bundle.listD A s s.heap) (hS : va_S A s.heap H locs) (hsize : ls.size = c.maxLocals)
    (d0 : decode cc pc = .ok (.new ik, 3)) (d3 : decode cc (pc + 3) = .ok (.dup, 1)) (d4 : decode cc (pc + 4) = .ok (.ldc is, 2)) (d6 : decode cc (pc + 6) = .ok (.invokespecial ic, 3)) (d9 : decode cc (pc + 9) = .ok (.athrow, 1))
    (hout : ∀ x ∈ c.exceptionTable.toList, covers x (pc + 9) = false)
    (hRframes : names.length + 3 < R.frames) (hRlocals : (rest.map fun v => v.category).sum + (13 * (names.length + 1) + 43) ≤ R.locals) (hRcells : cells + 1 ≤ R.cells) (hRslots : slots + 6 ≤ R.slots) (hlocks : meth.locks = false)
    (hx : ∀ t : State, s.vm.Alike t.vm → H.size ≤ t.heap.size → (∀ q : Nat, q < H.size → t.heap[q]? = H[q]?) → XC cls s t)
    (hf : ∀ z ∈ locs, free z.base) (hc : cells + 1 ≤ mc) (hs : slots + 6 ≤ ms) :
    W p l e R s m args below meth c H locs cells slots (vx_MQ below Qc XC args s mc ms free) (F0 m pc ls rest) := by
  intro T hT X
  have htr : e.platform.stackTraces = false := (show e.platform.stackTraces = l.stackTraces by rw [X.admits.platform]).trans hl
  have Y := vx_rebase X (R' := { frames := R.frames, locals := R.locals, cells := 1, slots := 6 }) (Nat.le_refl _) (Nat.le_refl _) hRcells hRslots
  obtain ⟨s', hA⟩ : ∃ z, z = (T.setVm s.vm).setFrames (.invoking m args :: below) := ⟨_, rfl⟩
  rw [← hA] at Y
  have hvm : s'.vm = s.vm := by rw [hA]; rfl
  have hhp : s'.heap = H := by rw [hA]; exact hT
  have hW0 : s.WarmedH s'.vm := by rw [hvm]; exact State.WarmedH.refl s
  have hat' : ∀ w ∈ vx_atS own ic cls names, w.before args s' = true := fun w hw => vx_ot_at hW0 hvm.symm (hgood w (List.mem_cons_of_mem _ (List.mem_cons_of_mem _ hw))) (hat w hw)
  have hk' : (Cond.classLink own ik cls).before args s' = true := vx_ot_at hW0 hvm.symm (hgood _ List.mem_cons_self) hk
  have hini' : (Cond.initialized cls).before args s' = true := vx_ot_at hW0 hvm.symm (hgood _ (List.mem_cons_of_mem _ List.mem_cons_self)) hini
  have hU' : vx_Zq Bundle.tN "UNASSIGNED_STACK" Bundle.steD A s' s'.heap := by rw [hhp]; exact vx_Zq.moved hW0.alike (hU.kept hS.2.1)
  have hN' : vx_Zq Bundle.tN "SUPPRESSED_SENTINEL" Bundle.listD A s' s'.heap := by rw [hhp]; exact vx_Zq.moved hW0.alike (hN.kept hS.2.1)
  have h : ∀ w ∈ Bundle.ownAtoms own ic cls names, w.before args s' = true := vx_own hat' (vx_isRefq hU'.1) (vx_isRefq hN'.1) hU'.2.word hN'.2.word
  have hown' : s'.vm.findClass own = some m.cls := by rw [hvm]; exact hown
  have hins : (Cond.instantiable cls 6).before args s' = true := h _ (by simp [Bundle.ownAtoms])
  obtain ⟨vm₁, cX, kX, hfX, hkX, -, -, X₁, st1⟩ := Y.newCold hexec (own := own) (C := cls) (index := ik) (n := 6) hown' hk' hins hini'
    (g := F0 m pc ls rest) rfl (by rw [hb]; exact d0) (Nat.le_refl _) (Nat.le_refl _)
  generalize hT1 : (T.setVm vm₁).pushCell { cls := cX, slots := kX.instanceTypes.map defaultValue, vm := .none } = T1 at X₁ st1
  have hcat : (Value.ref T.heap.size).category = 1 := rfl
  have hcellA : T1.heap[T.heap.size]? = some (freshCell cX kX) := by rw [← hT1]; exact State.heap_pushCell_size _ _
  have d3' : decode c.code (pc + 3) = .ok (.dup, 1) := by rw [hb]; exact d3
  have d4' : decode c.code (pc + 4) = .ok (.ldc is, 2) := by rw [hb]; exact d4
  have hstr' : vk_R own is text sa s' := vk_R.warm hW0 hstr
  obtain ⟨U, hsteps, hrun, hend, hW, hsame, ce, hce, hO⟩ := X₁.ctorThrowS hexec htr (own := own) (cls := cls) (names := names) (ic := ic) hown' hcls hnames h (fun x hx => nomatch hx) hfX hkX hcellA (by rw [hhp, hT]; exact Nat.le_refl _) (msg := .ref sa) rfl
    (g := { method := m, pc := pc + 6, locals := ls, stack := .ref sa :: .ref T.heap.size :: .ref T.heap.size :: rest, locked := none }) rfl hsize rfl rfl (rest := rest) rfl
    (by rw [hb]; exact d6) (by rw [hb]; exact d9) hout hRframes (by simp only [List.map_cons, List.sum_cons, hcat]; omega) hlocks
  obtain ⟨f1, f2⟩ := vx_frame hsame
  rw [hhp] at f1 f2
  have hWs : s.WarmedH U.vm := State.WarmedH.trans hW0 hW
  have hcl : s.vm.findClass cls = some ce.cls := by
    have h9 := hO.cls
    rw [hvm] at h9
    exact h9
  have hall : s.sameButNew ({ U with vm := s.vm } : State) locs mc ms := by
    subst hA
    obtain ⟨e1, e2⟩ := hsame
    rw [State.setFrames_setFrames] at e1
    have h2 : (T.setVm s.vm).sameButNew ({ U with vm := s.vm } : State) [] (0 + 1) (0 + 6) := ⟨e1, e2⟩
    have h3 := X.same.trans h2
    rw [List.append_nil] at h3
    exact h3.mono hc hs
  refine ⟨U, ?_, .threw T.heap.size, hrun, hend, Or.inr ⟨T.heap.size, rfl, cls, ce, locs, hx U hWs.alike f1 (fun q hq => f2 q hq (fun z hz => nomatch hz)), hce, hO.vm, hcl, hWs, hall, hf⟩⟩
  refine st1 _ ?_
  show Steps p.tables e below (T1.setTop { method := m, pc := pc + 3, locals := ls, stack := .ref T.heap.size :: rest, locked := none }) _
  jvm_step X₁.here [X₁.here.top, hexec, d3', Value.category]
  exact X₁.ldcString hexec (own := own) (text := text) (index := is) (a := sa) hown' hstr'.1 hstr'.2
    (g := { method := m, pc := pc + 4, locals := ls, stack := .ref T.heap.size :: .ref T.heap.size :: rest, locked := none }) rfl d4' _ hsteps
/-- 'throw new E("text")', the text by a wide index -/
theorem vx_throwSW {cc : ByteArray} {pc : Nat} (hexec : p.tables.exec = Jvm.exec) (hb : c.code = cc) (hl : l.stackTraces = false) {own cls text : String} {names : List String} {ik is ic mc ms sa : Nat} {A : Nat → Prop}
    (hown : s.vm.findClass own = some m.cls) (hcls : Bundle.fit cls = true) (hnames : ∀ n ∈ names, Bundle.fit n = true)
    (hk : (Cond.classLink own ik cls).before args s = true) (hini : (Cond.initialized cls).before args s = true) (hstr : vk_R own is text sa s) (hat : ∀ w ∈ vx_atS own ic cls names, w.before args s = true)
    (hgood : ∀ w ∈ Cond.classLink own ik cls :: Cond.initialized cls :: vx_atS own ic cls names, vx_ot w = true)
    (hU : vx_Zq Bundle.tN "UNASSIGNED_STACK" Bundle.steD A s s.heap) (hN : vx_Zq Bundle.tN "SUPPRESSED_SENTINEL" Bundle.listD A s s.heap) (hS : va_S A s.heap H locs) (hsize : ls.size = c.maxLocals)
    (d0 : decode cc pc = .ok (.new ik, 3)) (d3 : decode cc (pc + 3) = .ok (.dup, 1)) (d4 : decode cc (pc + 4) = .ok (.ldc_w is, 3)) (d7 : decode cc (pc + 7) = .ok (.invokespecial ic, 3)) (d10 : decode cc (pc + 10) = .ok (.athrow, 1))
    (hout : ∀ x ∈ c.exceptionTable.toList, covers x (pc + 10) = false)
    (hRframes : names.length + 3 < R.frames) (hRlocals : (rest.map fun v => v.category).sum + (13 * (names.length + 1) + 43) ≤ R.locals) (hRcells : cells + 1 ≤ R.cells) (hRslots : slots + 6 ≤ R.slots) (hlocks : meth.locks = false)
    (hx : ∀ t : State, s.vm.Alike t.vm → H.size ≤ t.heap.size → (∀ q : Nat, q < H.size → t.heap[q]? = H[q]?) → XC cls s t)
    (hf : ∀ z ∈ locs, free z.base) (hc : cells + 1 ≤ mc) (hs : slots + 6 ≤ ms) :
    W p l e R s m args below meth c H locs cells slots (vx_MQ below Qc XC args s mc ms free) (F0 m pc ls rest) := by
  intro T hT X
  have htr : e.platform.stackTraces = false := (show e.platform.stackTraces = l.stackTraces by rw [X.admits.platform]).trans hl
  have Y := vx_rebase X (R' := { frames := R.frames, locals := R.locals, cells := 1, slots := 6 }) (Nat.le_refl _) (Nat.le_refl _) hRcells hRslots
  obtain ⟨s', hA⟩ : ∃ z, z = (T.setVm s.vm).setFrames (.invoking m args :: below) := ⟨_, rfl⟩
  rw [← hA] at Y
  have hvm : s'.vm = s.vm := by rw [hA]; rfl
  have hhp : s'.heap = H := by rw [hA]; exact hT
  have hW0 : s.WarmedH s'.vm := by rw [hvm]; exact State.WarmedH.refl s
  have hat' : ∀ w ∈ vx_atS own ic cls names, w.before args s' = true := fun w hw => vx_ot_at hW0 hvm.symm (hgood w (List.mem_cons_of_mem _ (List.mem_cons_of_mem _ hw))) (hat w hw)
  have hk' : (Cond.classLink own ik cls).before args s' = true := vx_ot_at hW0 hvm.symm (hgood _ List.mem_cons_self) hk
  have hini' : (Cond.initialized cls).before args s' = true := vx_ot_at hW0 hvm.symm (hgood _ (List.mem_cons_of_mem _ List.mem_cons_self)) hini
  have hU' : vx_Zq Bundle.tN "UNASSIGNED_STACK" Bundle.steD A s' s'.heap := by rw [hhp]; exact vx_Zq.moved hW0.alike (hU.kept hS.2.1)
  have hN' : vx_Zq Bundle.tN "SUPPRESSED_SENTINEL" Bundle.listD A s' s'.heap := by rw [hhp]; exact vx_Zq.moved hW0.alike (hN.kept hS.2.1)
  have h : ∀ w ∈ Bundle.ownAtoms own ic cls names, w.before args s' = true := vx_own hat' (vx_isRefq hU'.1) (vx_isRefq hN'.1) hU'.2.word hN'.2.word
  have hown' : s'.vm.findClass own = some m.cls := by rw [hvm]; exact hown
  have hins : (Cond.instantiable cls 6).before args s' = true := h _ (by simp [Bundle.ownAtoms])
  obtain ⟨vm₁, cX, kX, hfX, hkX, -, -, X₁, st1⟩ := Y.newCold hexec (own := own) (C := cls) (index := ik) (n := 6) hown' hk' hins hini'
    (g := F0 m pc ls rest) rfl (by rw [hb]; exact d0) (Nat.le_refl _) (Nat.le_refl _)
  generalize hT1 : (T.setVm vm₁).pushCell { cls := cX, slots := kX.instanceTypes.map defaultValue, vm := .none } = T1 at X₁ st1
  have hcat : (Value.ref T.heap.size).category = 1 := rfl
  have hcellA : T1.heap[T.heap.size]? = some (freshCell cX kX) := by rw [← hT1]; exact State.heap_pushCell_size _ _
  have d3' : decode c.code (pc + 3) = .ok (.dup, 1) := by rw [hb]; exact d3
  have d4' : decode c.code (pc + 4) = .ok (.ldc_w is, 3) := by rw [hb]; exact d4
  have hstr' : vk_R own is text sa s' := vk_R.warm hW0 hstr
  obtain ⟨U, hsteps, hrun, hend, hW, hsame, ce, hce, hO⟩ := X₁.ctorThrowS hexec htr (own := own) (cls := cls) (names := names) (ic := ic) hown' hcls hnames h (fun x hx => nomatch hx) hfX hkX hcellA (by rw [hhp, hT]; exact Nat.le_refl _) (msg := .ref sa) rfl
    (g := { method := m, pc := pc + 7, locals := ls, stack := .ref sa :: .ref T.heap.size :: .ref T.heap.size :: rest, locked := none }) rfl hsize rfl rfl (rest := rest) rfl
    (by rw [hb]; exact d7) (by rw [hb]; exact d10) hout hRframes (by simp only [List.map_cons, List.sum_cons, hcat]; omega) hlocks
  obtain ⟨f1, f2⟩ := vx_frame hsame
  rw [hhp] at f1 f2
  have hWs : s.WarmedH U.vm := State.WarmedH.trans hW0 hW
  have hcl : s.vm.findClass cls = some ce.cls := by
    have h9 := hO.cls
    rw [hvm] at h9
    exact h9
  have hall : s.sameButNew ({ U with vm := s.vm } : State) locs mc ms := by
    subst hA
    obtain ⟨e1, e2⟩ := hsame
    rw [State.setFrames_setFrames] at e1
    have h2 : (T.setVm s.vm).sameButNew ({ U with vm := s.vm } : State) [] (0 + 1) (0 + 6) := ⟨e1, e2⟩
    have h3 := X.same.trans h2
    rw [List.append_nil] at h3
    exact h3.mono hc hs
  refine ⟨U, ?_, .threw T.heap.size, hrun, hend, Or.inr ⟨T.heap.size, rfl, cls, ce, locs, hx U hWs.alike f1 (fun q hq => f2 q hq (fun z hz => nomatch hz)), hce, hO.vm, hcl, hWs, hall, hf⟩⟩
  refine st1 _ ?_
  show Steps p.tables e below (T1.setTop { method := m, pc := pc + 3, locals := ls, stack := .ref T.heap.size :: rest, locked := none }) _
  jvm_step X₁.here [X₁.here.top, hexec, d3', Value.category]
  exact X₁.ldcStringW hexec (own := own) (text := text) (index := is) (a := sa) hown' hstr'.1 hstr'.2
    (g := { method := m, pc := pc + 4, locals := ls, stack := .ref T.heap.size :: .ref T.heap.size :: rest, locked := none }) rfl d4' _ hsteps
end Ends
section Bodies
variable {l : Launch}
theorem vx_ofW {y : MethodName} {ws ws' : List Cond} {rm : Room} {Pc : Array Value → State → Prop} {Qc : Array Value → State → Outcome → State → Prop} {XC : String → State → State → Prop} {mc ms : Nat} {free : Addr → Prop} {cc : ByteArray} {maxL : Nat} {ret : Option FieldType}
    (hy : plainName y.cls = true) (hw : ws = Cond.code y cc maxL ret :: ws')
    (body : ∀ p e s m args below meth c s₁, BodyLoose p l y (headSpec ws rm) cc maxL ret e s m args below meth c s₁ → c.maxLocals = maxL → (∀ x ∈ c.exceptionTable.toList, False) → Pc args s →
      W p l e (headSpec ws rm).room s m args below meth c s.heap [] 0 0 (vx_MQ below Qc XC args s mc ms free) (entryFrame m args maxL)) : vx_Met l y ws rm Pc Qc XC mc ms free := by
  refine MetFree.of_bodyS (code := cc) (maxLocals := maxL) (ret := ret) hy ?_ ?_
  · intro args s m h hn
    obtain ⟨meth, c, h1, h2, h3, h4, h5, h6, -, -⟩ := Cond.code_spec hn (atoms_spec (ws := ws) h _ (by rw [hw]; exact List.mem_cons_self))
    exact ⟨meth, c, h1, h2, h3, h4, h5, h6⟩
  · intro p e s m args below meth c s₁ B hml hP _
    have hh0 : s₁.heap = s.heap := by rw [B.state]; rfl
    have ht : ∀ x ∈ c.exceptionTable.toList, False := by
      obtain ⟨meth9, c9, h1, h2, -, -, -, -, h7, -⟩ := Cond.code_spec B.named (atoms_spec (ws := ws) B.pre _ (by rw [hw]; exact List.mem_cons_self))
      cases Option.some.inj (h1.symm.trans B.method)
      cases Option.some.inj (h2.symm.trans (Stand.of_body B).code)
      intro x hx
      rw [Array.isEmpty_iff.mp h7] at hx
      cases hx
    obtain ⟨t, a1, o, b1, b2, b3⟩ := body p e s m args below meth c s₁ B hml ht hP s₁ hh0 (Stand.of_body B)
    exact ⟨t, o, a1, b1, b2, b3⟩
/-- the table of a body with handlers -/
theorem vx_table {p : Program} {x y : MethodName} {S : Spec} {cc bytes : ByteArray} {maxL maxL' : Nat} {ret ret' : Option FieldType} {e : Env} {s s₁ : State} {m : MethodId} {args : Array Value} {below : List Frame} {meth : Method} {c : Code} {hh : List (Nat × Nat × Nat × Nat)}
    (B : BodyLoose p l y S cc maxL ret e s m args below meth c s₁) (h : (Cond.codeWith y bytes maxL' ret' hh).before args s = true) : c.exceptionTable.toList = tableOf hh := by
  obtain ⟨m9, meth9, c9, hn9, h1, h2, -, -, h6, -⟩ := Cond.codeWith_spec h
  cases Option.some.inj (hn9.symm.trans B.named)
  cases Option.some.inj (h1.symm.trans B.method)
  cases Option.some.inj (h2.symm.trans (Stand.of_body B).code)
  rw [← h6, table_eq]
end Bodies
end VXA
/-! ===== END ===== -/
/-! ===== BEGIN a static call of a method with an exception table ===== -/
section VXS
variable {p : Program} {l : Launch} {e : Env} {R : Room} {s : State} {m : MethodId} {args : Array Value} {below : List Frame} {meth : Method} {c : Code} {T : State} {H : Heap} {locs : List Loc} {cells slots : Nat}
abbrev vx_CSW (R : Room) (s : State) (args : Array Value) (own : String) (index : Nat) (y : MethodName) (bytes : ByteArray) (maxL : Nat) (ret : Option FieldType) (hh : List (Nat × Nat × Nat × Nat)) (ws : List Cond) (rm : Room) (mc ms n : Nat) : Prop :=
  (rm.cells = mc ∧ rm.slots = ms ∧ rm.frames + 1 ≤ R.frames ∧ 8 + (maxL + 11) + rm.locals ≤ R.locals ∧ (∀ w ∈ ws, ∀ (a' : Array Value) (U : State), s.WarmedH U.vm → w.before a' U = true) ∧ Cond.codeWith y bytes maxL ret hh ∈ ws) ∧
  (Cond.codeWith y bytes maxL ret hh).before args s = true ∧ (Cond.initialized y.cls).before args s = true ∧ (y.cls ≠ "java/lang/invoke/MethodHandle" ∧ y.cls ≠ "java/lang/invoke/VarHandle") ∧
  (∀ sig, parseMethodDescriptor y.desc = some sig → n = sig.parameters.length) ∧ (Cond.methodLink own index y).before args s = true ∧ (Cond.static y).before args s = true
theorem vx_cwSW {own : String} {index maxL mc ms : Nat} {y : MethodName} {bytes : ByteArray} {ret : Option FieldType} {hh : List (Nat × Nat × Nat × Nat)} {Ts ws ws' : List Cond} {rm : Room} (n : Nat) (ht : ∀ w ∈ Ts, w.before args s = true) (hT : GoodIn Ts (va_wsS own index y ws)) (hw : ws = Cond.codeWith y bytes maxL ret hh :: ws') (hrc : rm.cells = mc) (hrs : rm.slots = ms)
    (hd : y.cls ≠ "java/lang/invoke/MethodHandle" ∧ y.cls ≠ "java/lang/invoke/VarHandle" ∧ (parseMethodDescriptor y.desc).map (fun d => d.parameters.length) = some n) (hR : rm.frames + 1 ≤ R.frames ∧ 8 + (maxL + 11) + rm.locals ≤ R.locals) :
    vx_CSW R s args own index y bytes maxL ret hh ws rm mc ms n := by
  have ok : ∀ w ∈ va_wsS own index y ws, w.before args s = true := fun w h => ht w (hT w h).1
  have hG : GoodIn Ts ws := fun w h => hT w (by unfold va_wsS; exact List.mem_append_right _ h)
  have hc : Cond.codeWith y bytes maxL ret hh ∈ ws := by rw [hw]; exact List.mem_cons_self
  refine ⟨⟨hrc, hrs, hR.1, hR.2, pay_in ht hG, hc⟩, ht _ (hG _ hc).1, ok _ (by simp [va_wsS]), ⟨hd.1, hd.2.1⟩, fun sig h => ?_, ok _ (by simp [va_wsS]), ok _ (by simp [va_wsS])⟩
  have h2 := hd.2.2
  rw [h] at h2
  exact (Option.some.inj h2).symm
theorem vx_callSW (X : Stand p l e R s m args below meth c T locs cells slots) (hexec : p.tables.exec = Jvm.exec) {own : String} {index : Nat} {y : MethodName} {bytes : ByteArray} {maxL : Nat} {ret : Option FieldType} {hh : List (Nat × Nat × Nat × Nat)}
    (hown : s.vm.findClass own = some m.cls) (hlink : (Cond.methodLink own index y).before args s = true) (hstat : (Cond.static y).before args s = true) (hinit : (Cond.initialized y.cls).before args s = true)
    (hcode : (Cond.codeWith y bytes maxL ret hh).before args s = true) (hy : y.cls ≠ "java/lang/invoke/MethodHandle" ∧ y.cls ≠ "java/lang/invoke/VarHandle")
    {W9 : Nat} {Pre : Pt → Array Value → Prop} {Post : Pt → Array Value → Option Value → Pt → Prop} (hK : Back l R p e below s args y 3 W9 Pre Post)
    {g : JFrame} (hg : g.method = m) (hsize : g.locals.size = c.maxLocals) {argsL rest : List Value} (hlen : ∀ sig, parseMethodDescriptor y.desc = some sig → argsL.length = sig.parameters.length)
    (hstack : g.stack = argsL.reverse ++ rest) (hW : 2 * g.monitorRoom + (rest.map fun v => v.category).sum ≤ W9) (hdg : decode c.code g.pc = .ok (.invokestatic index, 3))
    (hpre : ∀ vm₁, s.WarmedH vm₁ → Pre ⟨T.setVm vm₁, locs, cells, slots⟩ argsL.toArray) :
    ∃ (v : Option Value) (vm₁ : Vm) (B : Pt), s.WarmedH vm₁ ∧ Stand p l e R s m args below meth c B.U B.locs B.cells B.slots ∧ Post ⟨T.setVm vm₁, locs, cells, slots⟩ argsL.toArray v B ∧
      ∀ target, Steps p.tables e below (B.U.setTop { g with pc := g.pc + 3, stack := v.toList ++ rest }) target → Steps p.tables e below (T.setTop g) target := by
  obtain ⟨mk, methM, cM, hnamed, hmethM, -, -, -, -, -, -, hsigM⟩ := Cond.codeWith_spec hcode
  have hstatic : methM.isStatic = true := Cond.static_spec hnamed hmethM hstat
  obtain ⟨kP, hkP, -⟩ := className_of_methodNamed hnamed
  have hinitP : kP.init = .initialized := Cond.initialized_spec (findClass_of_methodNamed hnamed) hkP hinit
  obtain ⟨vm₁, X₁, hstep₁⟩ := X.invokestatic hexec hown hlink hnamed hmethM hstatic hkP hinitP hy (g := g) hg (argsL := argsL) (rest := rest) (hlen _ hsigM) hstack hdg
  obtain ⟨v, B, X', hpost, hsteps⟩ := hK m meth c ⟨T.setVm vm₁, locs, cells, slots⟩ { g with stack := rest } (.invokestatic index) mk argsL.toArray X₁ hg hsize hdg hW (X₁.named hnamed) (hpre vm₁ X₁.warmed)
  exact ⟨v, vm₁, B, X₁.warmed, X', hpost, fun target h => hstep₁ _ fun acts => by rw [doInvoke_state]; exact hsteps.trans h⟩
theorem vx_runSW {y : MethodName} {bytes cc : ByteArray} {maxL nL mc ms n index : Nat} {ret : Option FieldType} {hh : List (Nat × Nat × Nat × Nat)} {ws : List Cond} {rm : Room} {Pc : Array Value → State → Prop} {Qc : Array Value → State → Outcome → State → Prop} {free : Addr → Prop} {Ts : List Cond} {own : String} {As rest : List Value} {g : JFrame}
    (S : CallFix p m c cc nL s args Ts own) (hM : Met l y ws rm Pc Qc mc ms free) (cw : vx_CSW R s args own index y bytes maxL ret hh ws rm mc ms n) (hp : PreS s H Pc As)
    (hg : g.method = m) (hn : As.length = n) (hsize : g.locals.size = nL) (hstack : g.stack = As.reverse ++ rest) (hW : 2 * g.monitorRoom + (rest.map fun v => v.category).sum ≤ 8) (hdg : decode cc g.pc = .ok (.invokestatic index, 3)) (hf : cells + mc ≤ R.cells ∧ slots + ms ≤ R.slots) :
    va_Run p l e R s m args below meth c H locs cells slots mc ms g rest (Qc As.toArray) (free) := by
  obtain ⟨⟨hrc, hrs, hfr, hlo, hws, hcw⟩, hcode, hini, hy, hlen, hl, hstt⟩ := cw
  have hK : Back l R p e below s args y 3 8 (PreOf R mc ms Pc) (PostOf Qc mc ms free) := va_backW (hh := hh) (bytes := bytes) (maxL := maxL) (ret := ret) hM hp.1 hrc hrs hfr hlo hws hcw (fun a' U hW => word_at hW (Or.inl (by first | rfl | simp [Cond.onTables, Cond.keeps, Cond.steady])) hini)
  obtain ⟨hx, hb, hml, ho, -⟩ := S
  intro T hT X
  obtain ⟨v, vm₁, ⟨U', l2, c2, s2⟩, hW₁, X', ⟨g', mk, t, L, e1, e2, hq, h1, hL, h2, h3⟩, st⟩ := vx_callSW X hx (hh := hh) (bytes := bytes) (maxL := maxL) (ret := ret) ho hl hstt hini hcode hy hK hg (hsize.trans hml.symm) (argsL := As) (rest := rest) (fun sig h => hn.trans (hlen sig h)) hstack hW (by rw [hb]; exact hdg)
    (fun vm₁ hW₁ => ⟨hf.1, hf.2, hp.2 (T.setVm vm₁) hT hW₁⟩)
  dsimp only [Pt.U, Pt.locs, Pt.cells, Pt.slots] at X' e1 e2 h1 h2 h3 st
  subst h1; subst h2; subst h3
  exact ⟨v, (T.setVm vm₁).calling g' mk As.toArray, t, U', L, hT, X', hL, e1, e2, hq, st⟩
/-- not caught here, past rows that name other classes: it goes on to the caller -/
theorem vx_outP {p : Program} {l : Launch} {e : Env} {R : Room} {s : State} {m : MethodId} {args : Array Value} {below : List Frame} {meth : Method} {c : Code} {H : Heap} {locs : List Loc} {cells slots : Nat} {free : Addr → Prop} {ls : Array Slot} {rest : List Value} {Qc : Array Value → State → Outcome → State → Prop} {XC : String → State → State → Prop}
    {pc : Nat} {own E : String} {ce : Cell} {q : Addr} {mc ms : Nat} (hown : s.vm.findClass own = some m.cls) (hlocks : meth.locks = false)
    (hpass : ∀ z ∈ c.exceptionTable.toList, covers z pc = false ∨ (z.catchType ≠ 0 ∧ ∃ nm : String, (Cond.classLink own z.catchType nm).before args s = true ∧ va_Nc E nm s)) (hcell : H[q]? = some ce) (hv : ce.vm = .none) (hcl : s.vm.findClass E = some ce.cls)
    (hx : ∀ t : State, t.heap = H → s.vm.Alike t.vm → XC E s t) (hf : ∀ z ∈ locs, free z.base) (hc : cells ≤ mc) (hs : slots ≤ ms) :
    vx_W p l e R s m args below meth c H locs cells slots (vx_MQ below Qc XC args s mc ms free) (F0 m pc ls rest) q := by
  intro T hT X
  have hpl : e.platform.magicAccessors = ({} : Platform).magicAccessors := by rw [X.admits.platform]
  obtain ⟨vm', hW', X', st⟩ := X.outThrough hlocks q (g := F0 m pc ls rest) rfl rfl rfl (cell := ce) (by rw [hT]; exact hcell) (by rw [hv]; rfl)
    (by obtain ⟨k9, h9, -⟩ := Vm.findClass_spec hcl; exact ⟨k9, h9⟩) (fun z hz => by
      rcases hpass z hz with h | ⟨hz0, nm, hl1, hn1⟩
      · exact Or.inl h
      · obtain ⟨c6, hc6, hcl6⟩ := Cond.classLink_spec hown hl1 e.platform hpl
        obtain ⟨a8, b8, h1, h2, h3⟩ := hn1
        cases Option.some.inj (h1.symm.trans hcl)
        cases Option.some.inj (h2.symm.trans hc6)
        exact Or.inr ⟨hz0, _, hcl6, h3⟩)
  obtain ⟨g₀, hfr⟩ := X'.frames_eq
  have hcell9 : ((T.setVm vm').setFrames (.throwing q :: below)).heap[q]? = some ce := by
    show T.heap[q]? = some ce
    rw [hT]; exact hcell
  have hend : Ended ((T.setVm vm').setFrames (.throwing q :: below)) below (.threw q) := State.frames_setFrames _ (State.cur_lt_of_frames hfr)
  refine ⟨(T.setVm vm').setFrames (.throwing q :: below), ?_, .threw q, X'.here.running, hend, Or.inr ⟨q, rfl, E, ce, locs, hx _ hT (X'.ends _).1.alike, hcell9, hv, hcl, (X'.ends _).1, (X'.ends _).2.mono hc hs, hf⟩⟩
  rw [X.pushThrowing_eq]
  exact st
/-- a thing of a world lies in the heap -/
theorem vx_lt {D : va_G} {cl : List vw_C} {ws : va_W} {H1 : Heap} (h : va_P D cl ws H1) {k : Nat} {q : Nat × va_E} (hk : ws[k]? = some q) : q.1 < H1.size := (h k q hk).lt
end VXS
/-! ===== END ===== -/
/-! ===== BEGIN methods with a table of their own: called by a name, returning or throwing ===== -/
section VXH
/-! vx_backW, vx_callVX, vx_callSX, vx_callVW, vx_runVW, vx_runVX, vx_runSX, vx_ofWH follow the same proofs as their sisters above (Free/Laws.lean, Shelf42/LK1.lean); vx_outP calls Shelf42/NT130.lean (outThrough). -/
section
variable {l : Launch} {R : Room} {p : Program} {e : Env} {below : List Frame} {s : State} {sargs : Array Value} {y : MethodName} {len W9 : Nat}
theorem vx_backW {ws : List Cond} {rm : Room} {Pc : Array Value → State → Prop} {Qc : Array Value → State → Outcome → State → Prop} {XC : String → State → State → Prop} {mc ms : Nat} {free : Addr → Prop} {bytes : ByteArray} {maxL : Nat} {ret : Option FieldType} {hh : List (Nat × Nat × Nat × Nat)}
    (hM : vx_Met l y ws rm Pc Qc XC mc ms free) (hblind : FrameBlind Pc) (hrc : rm.cells = mc) (hrs : rm.slots = ms)
    (hframes : rm.frames + 1 ≤ R.frames) (hlocals : W9 + (maxL + 11) + rm.locals ≤ R.locals)
    (hws : ∀ w ∈ ws, ∀ a' U, s.WarmedH U.vm → w.before a' U = true) (hcode : Cond.codeWith y bytes maxL ret hh ∈ ws) (hinit : ∀ a' U, s.WarmedH U.vm → (Cond.initialized y.cls).before a' U = true) :
    vx_Back l R p e below s sargs y len W9 (PreOf R mc ms Pc) (PostOf Qc mc ms free) (vx_Post XC mc ms free) := by
  intro m meth c A g ig mk a X hg hsize hdg hW hn hp
  have h1 : (headSpec ws rm).pre.before a A.U = true := atoms_intro fun w hw => hws w hw _ _ X.warmed
  have h2 : (Cond.codeWith y bytes maxL ret hh).before a A.U = true := hws _ hcode _ _ X.warmed
  have h3 : (Cond.initialized y.cls).before a A.U = true := hinit _ _ X.warmed
  have h4 : A.cells + (headSpec ws rm).room.cells ≤ R.cells := by rw [show (headSpec ws rm).room.cells = mc from hrc]; exact hp.1
  have h5 : A.slots + (headSpec ws rm).room.slots ≤ R.slots := by rw [show (headSpec ws rm).room.slots = ms from hrs]; exact hp.2.1
  have hPc : Pc a (A.U.calling g mk a) := hblind _ _ _ _ hp.2.2
  obtain ⟨U, Ls, c0, s0⟩ := A
  dsimp only [Pt.U, Pt.locs, Pt.cells, Pt.slots] at h1 h2 h3 h4 h5 X hn hPc ⊢
  obtain ⟨m9, methY, cY, hn9, hmY, hcY, -, hlY, -⟩ := Cond.codeWith_spec h2
  cases Option.some.inj (hn9.symm.trans hn)
  obtain ⟨kY, hkY, -⟩ := className_of_methodNamed hn
  have hinitY : kY.init = .initialized := Cond.initialized_spec (findClass_of_methodNamed hn) hkY h3
  have h : At U g.method c below := by rw [hg]; exact X.here
  have hlocals9 : W9 + (maxL + 11) + (headSpec ws rm).room.locals ≤ R.locals := hlocals
  have happ : (headSpec ws rm).appliesLoose y e.platform (U.calling g mk a) = true :=
    Spec.appliesLoose_calling (g := g) h hdg hn hkY hinitY
      (X.room_calling (g := g) (R' := (headSpec ws rm).room) hsize hmY hcY hframes (by rw [hlY]; omega) h4 h5) h1
  obtain ⟨mid, hmid⟩ := h.above
  have hfr : (U.setTop g).frames = (.java g :: mid) ++ below := by rw [State.frames_setTop' g h.top, hmid]; rfl
  obtain ⟨o, s₂, hsteps, -, hend, hq⟩ := Steps.callFree hM p X.admits X.cas X.clock (acts := []) hfr happ hPc trivial
  have hq' : vx_Q Qc XC mc ms free a (U.calling g mk a) o s₂ := hq
  rw [State.frames_setTop' g h.top] at hend
  obtain ⟨g₀, hg0⟩ := Option.isSome_iff_exists.mp h.top
  obtain ⟨r, hr⟩ := State.topJava?_eq_some.mp hg0
  have hr' : (({ U with heap := s₂.heap, slotsUsed := s₂.slotsUsed } : State).setVm s₂.vm).frames = .java g₀ :: r := hr
  rcases hq' with ⟨hqc, L, hfe, hL⟩ | ⟨q, rfl, E, ce, L, hx, hce, hcv, hcl, hW₂, hsm, hL⟩
  · obtain ⟨⟨v, rfl⟩, hW₂, e2, q2, q3, q4, q5, q6⟩ := id hfe
    have e3 : s₂ = ({ (U.calling g mk a).setFrames s₂.frames with heap := s₂.heap, slotsUsed := s₂.slotsUsed } : State).setVm s₂.vm := by
      have : s₂ = ({ s₂ with vm := (U.calling g mk a).vm } : State).setVm s₂.vm := rfl
      rw [e2] at this
      exact this
    obtain ⟨c₂, i₂, len₂, hc₂, hd₂, hf₂⟩ := hend
    have hW' : U.WarmedH s₂.vm := hW₂
    have hcc : c₂ = c := by
      have h1 : s₂.code? g.method = U.code? g.method := by
        rw [State.code?_eq, State.code?_eq, hW'.alike.method?]
      exact Option.some.inj (hc₂.symm.trans (h1.trans h.code))
    subst hcc
    have hlen : len₂ = len := by rw [hdg] at hd₂; cases hd₂; rfl
    subst hlen
    have hs₂ : s₂ = (({ U with heap := s₂.heap, slotsUsed := s₂.slotsUsed } : State).setVm s₂.vm).setTop { g with pc := g.pc + len₂, stack := v.toList ++ g.stack } := by
      refine e3.trans ?_
      rw [hf₂, State.calling_eq h.top, State.setFrames_setFrames, State.setTop_of_frames _ hr', hr]
      rfl
    have hsame : U.sameButNew ({ U with heap := s₂.heap, slotsUsed := s₂.slotsUsed } : State) L mc ms := by
      refine ⟨?_, q2, q3, q4, q5, q6⟩
      obtain ⟨t, ht, -⟩ := State.frames_cons hr
      show ({ U with heap := s₂.heap, slotsUsed := s₂.slotsUsed } : State) = { U.setFrames U.frames with heap := s₂.heap, slotsUsed := s₂.slotsUsed }
      rw [State.setFrames_self ht]
    subst hg
    refine Or.inl ⟨v, ⟨(({ U with heap := s₂.heap, slotsUsed := s₂.slotsUsed } : State).setVm s₂.vm), Ls ++ L, c0 + mc, s0 + ms⟩,
      ⟨X.admits, X.cas, X.clock, X.frames, X.room, X.hears, X.method, X.code, (X.here.setHeapUsed s₂.heap s₂.slotsUsed).setVm hW'.alike, X.tail, State.WarmedH.trans X.warmed hW', X.limits, X.bytes, X.same.trans (hsame.setVm s.vm)⟩,
      ⟨g, mk, s₂, L, rfl, rfl, hqc, rfl, hL, rfl, rfl⟩, ?_⟩
    show Steps p.tables e below _ ((({ U with heap := s₂.heap, slotsUsed := s₂.slotsUsed } : State).setVm s₂.vm).setTop { g with pc := g.pc + len₂, stack := v.toList ++ g.stack })
    rw [← hs₂]
    exact hsteps
  · obtain ⟨e2, q2, q3, q4, q5, q6⟩ := id hsm
    have e3 : s₂ = ({ (U.calling g mk a).setFrames s₂.frames with heap := s₂.heap, slotsUsed := s₂.slotsUsed } : State).setVm s₂.vm := by
      have : s₂ = ({ s₂ with vm := (U.calling g mk a).vm } : State).setVm s₂.vm := rfl
      rw [e2] at this
      exact this
    have hf₂ : s₂.frames = .throwing q :: .java g :: U.frames.tail := hend
    have hW' : U.WarmedH s₂.vm := hW₂
    have hs₂ : s₂ = ((({ U with heap := s₂.heap, slotsUsed := s₂.slotsUsed } : State).setVm s₂.vm).setTop g).pushFrame (.throwing q) := by
      refine e3.trans ?_
      rw [hf₂, State.calling_eq h.top, State.setFrames_setFrames, State.pushFrame, State.frames_setTop _ hr', State.setTop_of_frames _ hr', State.setFrames_setFrames, hr]
      rfl
    have hsame : U.sameButNew ({ U with heap := s₂.heap, slotsUsed := s₂.slotsUsed } : State) L mc ms := by
      refine ⟨?_, q2, q3, q4, q5, q6⟩
      obtain ⟨t, ht, -⟩ := State.frames_cons hr
      show ({ U with heap := s₂.heap, slotsUsed := s₂.slotsUsed } : State) = { U.setFrames U.frames with heap := s₂.heap, slotsUsed := s₂.slotsUsed }
      rw [State.setFrames_self ht]
    subst hg
    refine Or.inr ⟨q, ⟨(({ U with heap := s₂.heap, slotsUsed := s₂.slotsUsed } : State).setVm s₂.vm), Ls ++ L, c0 + mc, s0 + ms⟩,
      ⟨X.admits, X.cas, X.clock, X.frames, X.room, X.hears, X.method, X.code, (X.here.setHeapUsed s₂.heap s₂.slotsUsed).setVm hW'.alike, X.tail, State.WarmedH.trans X.warmed hW', X.limits, X.bytes, X.same.trans (hsame.setVm s.vm)⟩,
      ⟨g, mk, s₂, L, E, ce, rfl, rfl, hx, hce, hcv, hcl, rfl, hL, rfl, rfl⟩, ?_⟩
    show Steps p.tables e below _ (((({ U with heap := s₂.heap, slotsUsed := s₂.slotsUsed } : State).setVm s₂.vm).setTop g).pushFrame (.throwing q))
    rw [← hs₂]
    exact hsteps
end
variable {p : Program} {l : Launch} {e : Env} {R : Room} {s : State} {m : MethodId} {args : Array Value} {below : List Frame} {meth : Method} {c : Code} {T : State} {H : Heap} {locs : List Loc} {cells slots : Nat}
theorem vx_callVX (X : Stand p l e R s m args below meth c T locs cells slots) (hexec : p.tables.exec = Jvm.exec) {own C : String} {index : Nat} {y : MethodName} {bytes : ByteArray} {maxL : Nat} {ret : Option FieldType} {hh : List (Nat × Nat × Nat × Nat)}
    (hown : s.vm.findClass own = some m.cls) (hlink : (Cond.methodLink own index y).before args s = true) (hinst : (Cond.instanceMethod y).before args s = true) (hsel : (Cond.selects C y y).before args s = true)
    (hcode : (Cond.codeWith y bytes maxL ret hh).before args s = true) (hy : y.cls ≠ "java/lang/invoke/MethodHandle" ∧ y.cls ≠ "java/lang/invoke/VarHandle")
    {W9 : Nat} {Pre : Pt → Array Value → Prop} {Post : Pt → Array Value → Option Value → Pt → Prop} {PostX : Pt → Array Value → Addr → Pt → Prop} (hK : vx_Back l R p e below s args y 3 W9 Pre Post PostX)
    {b : Addr} {cellB : Cell} (hcell : T.heap[b]? = some cellB) (hobj : cellB.vm.isStatics = false) (hcls : s.vm.findClass C = some cellB.cls)
    {g : JFrame} (hg : g.method = m) (hsize : g.locals.size = c.maxLocals) {argsL rest : List Value} (hlen : ∀ sig, parseMethodDescriptor y.desc = some sig → argsL.length = sig.parameters.length)
    (hstack : g.stack = argsL.reverse ++ .ref b :: rest) (hW : 2 * g.monitorRoom + (rest.map fun v => v.category).sum ≤ W9) (hdg : decode c.code g.pc = .ok (.invokevirtual index, 3))
    (hpre : ∀ vm₁, s.WarmedH vm₁ → Pre ⟨T.setVm vm₁, locs, cells, slots⟩ (Value.ref b :: argsL).toArray) :
    (∃ (v : Option Value) (vm₁ : Vm) (B : Pt), s.WarmedH vm₁ ∧ Stand p l e R s m args below meth c B.U B.locs B.cells B.slots ∧ Post ⟨T.setVm vm₁, locs, cells, slots⟩ (Value.ref b :: argsL).toArray v B ∧
      ∀ target, Steps p.tables e below (B.U.setTop { g with pc := g.pc + 3, stack := v.toList ++ rest }) target → Steps p.tables e below (T.setTop g) target) ∨
    (∃ (q : Addr) (vm₁ : Vm) (B : Pt), s.WarmedH vm₁ ∧ Stand p l e R s m args below meth c B.U B.locs B.cells B.slots ∧ PostX ⟨T.setVm vm₁, locs, cells, slots⟩ (Value.ref b :: argsL).toArray q B ∧
      Steps p.tables e below (T.setTop g) ((B.U.setTop { g with stack := rest }).pushFrame (.throwing q))) := by
  obtain ⟨mk, methM, hnamed, hmethM, hstM, habM⟩ := Cond.instanceMethod_spec hinst
  obtain ⟨m8, methM', cM, hn8, hmethM', -, -, -, -, -, -, hsigM⟩ := Cond.codeWith_spec hcode
  cases Option.some.inj (hn8.symm.trans hnamed)
  cases hmethM.symm.trans hmethM'
  obtain ⟨c2, r2, m2, q1, q2, q3, q4, kP, hkP, hkPi⟩ := Cond.selects_spec hsel
  cases hcls.symm.trans q1
  cases (State.methodFound?_of_named hnamed hy).symm.trans q2
  cases hnamed.symm.trans q3
  have hselP : selectMethod e.platform s.vm cellB.cls mk = .method mk := by rw [Launch.admits_selectMethod X.admits]; exact q4
  obtain ⟨vm₁, X₁, hstep₁⟩ := X.invokevirtual hexec hown hlink hnamed hmethM hstM hkP hkPi hy (a := b) (cell := cellB) hcell
    (fun z h => by rw [h] at hobj; cases hobj) hselP hmethM habM hkP hkPi (g := g) hg (argsL := argsL) (rest := rest) (hlen _ hsigM) hstack hdg
  rcases hK m meth c ⟨T.setVm vm₁, locs, cells, slots⟩ { g with stack := rest } (.invokevirtual index) mk (Value.ref b :: argsL).toArray X₁ hg hsize hdg hW (X₁.named hnamed) (hpre vm₁ X₁.warmed) with ⟨v, B, X', hpost, hsteps⟩ | ⟨q, B, X', hpost, hsteps⟩
  · exact Or.inl ⟨v, vm₁, B, X₁.warmed, X', hpost, fun target h => hstep₁ _ fun acts => by rw [doInvoke_state]; exact hsteps.trans h⟩
  · exact Or.inr ⟨q, vm₁, B, X₁.warmed, X', hpost, hstep₁ _ fun acts => by rw [doInvoke_state]; exact hsteps⟩
theorem vx_callSX (X : Stand p l e R s m args below meth c T locs cells slots) (hexec : p.tables.exec = Jvm.exec) {own : String} {index : Nat} {y : MethodName} {bytes : ByteArray} {maxL : Nat} {ret : Option FieldType} {hh : List (Nat × Nat × Nat × Nat)}
    (hown : s.vm.findClass own = some m.cls) (hlink : (Cond.methodLink own index y).before args s = true) (hstat : (Cond.static y).before args s = true) (hinit : (Cond.initialized y.cls).before args s = true)
    (hcode : (Cond.codeWith y bytes maxL ret hh).before args s = true) (hy : y.cls ≠ "java/lang/invoke/MethodHandle" ∧ y.cls ≠ "java/lang/invoke/VarHandle")
    {W9 : Nat} {Pre : Pt → Array Value → Prop} {Post : Pt → Array Value → Option Value → Pt → Prop} {PostX : Pt → Array Value → Addr → Pt → Prop} (hK : vx_Back l R p e below s args y 3 W9 Pre Post PostX)
    {g : JFrame} (hg : g.method = m) (hsize : g.locals.size = c.maxLocals) {argsL rest : List Value} (hlen : ∀ sig, parseMethodDescriptor y.desc = some sig → argsL.length = sig.parameters.length)
    (hstack : g.stack = argsL.reverse ++ rest) (hW : 2 * g.monitorRoom + (rest.map fun v => v.category).sum ≤ W9) (hdg : decode c.code g.pc = .ok (.invokestatic index, 3))
    (hpre : ∀ vm₁, s.WarmedH vm₁ → Pre ⟨T.setVm vm₁, locs, cells, slots⟩ argsL.toArray) :
    (∃ (v : Option Value) (vm₁ : Vm) (B : Pt), s.WarmedH vm₁ ∧ Stand p l e R s m args below meth c B.U B.locs B.cells B.slots ∧ Post ⟨T.setVm vm₁, locs, cells, slots⟩ argsL.toArray v B ∧
      ∀ target, Steps p.tables e below (B.U.setTop { g with pc := g.pc + 3, stack := v.toList ++ rest }) target → Steps p.tables e below (T.setTop g) target) ∨
    (∃ (q : Addr) (vm₁ : Vm) (B : Pt), s.WarmedH vm₁ ∧ Stand p l e R s m args below meth c B.U B.locs B.cells B.slots ∧ PostX ⟨T.setVm vm₁, locs, cells, slots⟩ argsL.toArray q B ∧
      Steps p.tables e below (T.setTop g) ((B.U.setTop { g with stack := rest }).pushFrame (.throwing q))) := by
  obtain ⟨mk, methM, cM, hnamed, hmethM, -, -, -, -, -, -, hsigM⟩ := Cond.codeWith_spec hcode
  have hstatic : methM.isStatic = true := Cond.static_spec hnamed hmethM hstat
  obtain ⟨kP, hkP, -⟩ := className_of_methodNamed hnamed
  have hinitP : kP.init = .initialized := Cond.initialized_spec (findClass_of_methodNamed hnamed) hkP hinit
  obtain ⟨vm₁, X₁, hstep₁⟩ := X.invokestatic hexec hown hlink hnamed hmethM hstatic hkP hinitP hy (g := g) hg (argsL := argsL) (rest := rest) (hlen _ hsigM) hstack hdg
  rcases hK m meth c ⟨T.setVm vm₁, locs, cells, slots⟩ { g with stack := rest } (.invokestatic index) mk argsL.toArray X₁ hg hsize hdg hW (X₁.named hnamed) (hpre vm₁ X₁.warmed) with ⟨v, B, X', hpost, hsteps⟩ | ⟨q, B, X', hpost, hsteps⟩
  · exact Or.inl ⟨v, vm₁, B, X₁.warmed, X', hpost, fun target h => hstep₁ _ fun acts => by rw [doInvoke_state]; exact hsteps.trans h⟩
  · exact Or.inr ⟨q, vm₁, B, X₁.warmed, X', hpost, hstep₁ _ fun acts => by rw [doInvoke_state]; exact hsteps⟩
theorem vx_callVW (X : Stand p l e R s m args below meth c T locs cells slots) (hexec : p.tables.exec = Jvm.exec) {own C : String} {index : Nat} {y : MethodName} {bytes : ByteArray} {maxL : Nat} {ret : Option FieldType} {hh : List (Nat × Nat × Nat × Nat)}
    (hown : s.vm.findClass own = some m.cls) (hlink : (Cond.methodLink own index y).before args s = true) (hinst : (Cond.instanceMethod y).before args s = true) (hsel : (Cond.selects C y y).before args s = true)
    (hcode : (Cond.codeWith y bytes maxL ret hh).before args s = true) (hy : y.cls ≠ "java/lang/invoke/MethodHandle" ∧ y.cls ≠ "java/lang/invoke/VarHandle")
    {W9 : Nat} {Pre : Pt → Array Value → Prop} {Post : Pt → Array Value → Option Value → Pt → Prop} (hK : Back l R p e below s args y 3 W9 Pre Post)
    {b : Addr} {cellB : Cell} (hcell : T.heap[b]? = some cellB) (hobj : cellB.vm.isStatics = false) (hcls : s.vm.findClass C = some cellB.cls)
    {g : JFrame} (hg : g.method = m) (hsize : g.locals.size = c.maxLocals) {argsL rest : List Value} (hlen : ∀ sig, parseMethodDescriptor y.desc = some sig → argsL.length = sig.parameters.length)
    (hstack : g.stack = argsL.reverse ++ .ref b :: rest) (hW : 2 * g.monitorRoom + (rest.map fun v => v.category).sum ≤ W9) (hdg : decode c.code g.pc = .ok (.invokevirtual index, 3))
    (hpre : ∀ vm₁, s.WarmedH vm₁ → Pre ⟨T.setVm vm₁, locs, cells, slots⟩ (Value.ref b :: argsL).toArray) :
    ∃ (v : Option Value) (vm₁ : Vm) (B : Pt), s.WarmedH vm₁ ∧ Stand p l e R s m args below meth c B.U B.locs B.cells B.slots ∧ Post ⟨T.setVm vm₁, locs, cells, slots⟩ (Value.ref b :: argsL).toArray v B ∧
      ∀ target, Steps p.tables e below (B.U.setTop { g with pc := g.pc + 3, stack := v.toList ++ rest }) target → Steps p.tables e below (T.setTop g) target := by
  obtain ⟨mk, methM, hnamed, hmethM, hstM, habM⟩ := Cond.instanceMethod_spec hinst
  obtain ⟨m8, methM', cM, hn8, hmethM', -, -, -, -, -, -, hsigM⟩ := Cond.codeWith_spec hcode
  cases Option.some.inj (hn8.symm.trans hnamed)
  cases hmethM.symm.trans hmethM'
  obtain ⟨c2, r2, m2, q1, q2, q3, q4, kP, hkP, hkPi⟩ := Cond.selects_spec hsel
  cases hcls.symm.trans q1
  cases (State.methodFound?_of_named hnamed hy).symm.trans q2
  cases hnamed.symm.trans q3
  have hselP : selectMethod e.platform s.vm cellB.cls mk = .method mk := by rw [Launch.admits_selectMethod X.admits]; exact q4
  obtain ⟨vm₁, X₁, hstep₁⟩ := X.invokevirtual hexec hown hlink hnamed hmethM hstM hkP hkPi hy (a := b) (cell := cellB) hcell
    (fun z h => by rw [h] at hobj; cases hobj) hselP hmethM habM hkP hkPi (g := g) hg (argsL := argsL) (rest := rest) (hlen _ hsigM) hstack hdg
  obtain ⟨v, B, X', hpost, hsteps⟩ := hK m meth c ⟨T.setVm vm₁, locs, cells, slots⟩ { g with stack := rest } (.invokevirtual index) mk (Value.ref b :: argsL).toArray X₁ hg hsize hdg hW (X₁.named hnamed) (hpre vm₁ X₁.warmed)
  exact ⟨v, vm₁, B, X₁.warmed, X', hpost, fun target h => hstep₁ _ fun acts => by rw [doInvoke_state]; exact hsteps.trans h⟩
abbrev vx_CVW (R : Room) (s : State) (args : Array Value) (own C : String) (index : Nat) (y : MethodName) (bytes : ByteArray) (maxL : Nat) (ret : Option FieldType) (hh : List (Nat × Nat × Nat × Nat)) (ws : List Cond) (rm : Room) (mc ms n : Nat) : Prop :=
  (rm.cells = mc ∧ rm.slots = ms ∧ rm.frames + 1 ≤ R.frames ∧ 8 + (maxL + 11) + rm.locals ≤ R.locals ∧ (∀ w ∈ ws, ∀ (a' : Array Value) (U : State), s.WarmedH U.vm → w.before a' U = true) ∧ Cond.codeWith y bytes maxL ret hh ∈ ws) ∧
  (Cond.codeWith y bytes maxL ret hh).before args s = true ∧ (Cond.initialized y.cls).before args s = true ∧ (y.cls ≠ "java/lang/invoke/MethodHandle" ∧ y.cls ≠ "java/lang/invoke/VarHandle") ∧
  (∀ sig, parseMethodDescriptor y.desc = some sig → n = sig.parameters.length) ∧ (Cond.methodLink own index y).before args s = true ∧ (Cond.instanceMethod y).before args s = true ∧ (Cond.selects C y y).before args s = true
theorem vx_cwVW {own C : String} {index maxL mc ms : Nat} {y : MethodName} {bytes : ByteArray} {ret : Option FieldType} {hh : List (Nat × Nat × Nat × Nat)} {Ts ws ws' : List Cond} {rm : Room} (n : Nat) (ht : ∀ w ∈ Ts, w.before args s = true) (hT : GoodIn Ts (wsV own index C y ws)) (hw : ws = Cond.codeWith y bytes maxL ret hh :: ws') (hrc : rm.cells = mc) (hrs : rm.slots = ms)
    (hd : y.cls = C ∧ y.cls ≠ "java/lang/invoke/MethodHandle" ∧ y.cls ≠ "java/lang/invoke/VarHandle" ∧ (parseMethodDescriptor y.desc).map (fun d => d.parameters.length) = some n) (hR : rm.frames + 1 ≤ R.frames ∧ 8 + (maxL + 11) + rm.locals ≤ R.locals) :
    vx_CVW R s args own C index y bytes maxL ret hh ws rm mc ms n := by
  obtain ⟨hC, hd⟩ := hd
  subst hC
  have ok : ∀ w ∈ wsV own index y.cls y ws, w.before args s = true := fun w h => ht w (hT w h).1
  have hG : GoodIn Ts ws := fun w h => hT w (by unfold wsV; exact List.mem_append_right _ h)
  have hc : Cond.codeWith y bytes maxL ret hh ∈ ws := by rw [hw]; exact List.mem_cons_self
  refine ⟨⟨hrc, hrs, hR.1, hR.2, pay_in ht hG, hc⟩, ht _ (hG _ hc).1, ok _ (by simp [wsV]), ⟨hd.1, hd.2.1⟩, fun sig h => ?_, ok _ (by simp [wsV]), ok _ (by simp [wsV]), ok _ (by simp [wsV])⟩
  have h2 := hd.2.2
  rw [h] at h2
  exact (Option.some.inj h2).symm
theorem vx_runVW {y : MethodName} {bytes cc : ByteArray} {maxL nL mc ms n index : Nat} {ret : Option FieldType} {hh : List (Nat × Nat × Nat × Nat)} {ws : List Cond} {rm : Room} {Pc : Array Value → State → Prop} {Qc : Array Value → State → Outcome → State → Prop} {free : Addr → Prop} {Ts : List Cond} {own C : String} {b : Addr} {As rest : List Value} {g : JFrame}
    (S : CallFix p m c cc nL s args Ts own) (hM : Met l y ws rm Pc Qc mc ms free) (cw : vx_CVW R s args own C index y bytes maxL ret hh ws rm mc ms n) (hp : PreV s H C b Pc As)
    (hg : g.method = m) (hn : As.length = n) (hsize : g.locals.size = nL) (hstack : g.stack = As.reverse ++ .ref b :: rest) (hW : 2 * g.monitorRoom + (rest.map fun v => v.category).sum ≤ 8) (hdg : decode cc g.pc = .ok (.invokevirtual index, 3)) (hf : cells + mc ≤ R.cells ∧ slots + ms ≤ R.slots) :
    va_Run p l e R s m args below meth c H locs cells slots mc ms g rest (Qc (Value.ref b :: As).toArray) free := by
  obtain ⟨⟨hrc, hrs, hfr, hlo, hws, hcw⟩, hcode, hini, hy, hlen, hl, hin, hse⟩ := cw
  have hK : Back l R p e below s args y 3 8 (PreOf R mc ms Pc) (PostOf Qc mc ms free) := va_backW (hh := hh) (bytes := bytes) (maxL := maxL) (ret := ret) hM hp.1 hrc hrs hfr hlo hws hcw (fun a' U hW => word_at hW (Or.inl (by first | rfl | simp [Cond.onTables, Cond.keeps, Cond.steady])) hini)
  obtain ⟨hx, hb, hml, ho, -⟩ := S
  obtain ⟨-, ⟨cellB, hcB, hoB, hclB⟩, hPc⟩ := hp
  intro T hT X
  obtain ⟨v, vm₁, ⟨U', l2, c2, s2⟩, hW₁, X', ⟨g', mk, t, L, e1, e2, hq, h1, hL, h2, h3⟩, st⟩ := vx_callVW X hx (C := C) (hh := hh) (bytes := bytes) (maxL := maxL) (ret := ret) ho hl hin hse hcode hy hK (by rw [hT]; exact hcB) hoB hclB hg (hsize.trans hml.symm) (argsL := As) (rest := rest) (fun sig h => hn.trans (hlen sig h)) hstack hW (by rw [hb]; exact hdg)
    (fun vm₁ hW₁ => ⟨hf.1, hf.2, hPc (T.setVm vm₁) hT hW₁⟩)
  dsimp only [Pt.U, Pt.locs, Pt.cells, Pt.slots] at X' e1 e2 h1 h2 h3 st
  subst h1; subst h2; subst h3
  exact ⟨v, (T.setVm vm₁).calling g' mk (Value.ref b :: As).toArray, t, U', L, hT, X', hL, e1, e2, hq, st⟩
section
variable {y : MethodName} {bytes cc : ByteArray} {maxL nL mc ms n index : Nat} {ret : Option FieldType} {ws : List Cond} {rm : Room} {Pc : Array Value → State → Prop} {Qc : Array Value → State → Outcome → State → Prop} {XC : String → State → State → Prop} {free : Addr → Prop} {Ts : List Cond} {own C : String} {b : Addr} {As rest : List Value} {g : JFrame}
theorem vx_runVX {hh : List (Nat × Nat × Nat × Nat)} (S : CallFix p m c cc nL s args Ts own) (hM : vx_Met l y ws rm Pc Qc XC mc ms free) (cw : vx_CVW R s args own C index y bytes maxL ret hh ws rm mc ms n) (hp : PreV s H C b Pc As)
    (hg : g.method = m) (hn : As.length = n) (hsize : g.locals.size = nL) (hstack : g.stack = As.reverse ++ .ref b :: rest) (hW : 2 * g.monitorRoom + (rest.map fun v => v.category).sum ≤ 8) (hdg : decode cc g.pc = .ok (.invokevirtual index, 3)) (hf : cells + mc ≤ R.cells ∧ slots + ms ≤ R.slots) :
    vx_Run p l e R s m args below meth c H locs cells slots mc ms g rest (Qc (Value.ref b :: As).toArray) XC free := by
  obtain ⟨⟨hrc, hrs, hfr, hlo, hws, hcw⟩, hcode, hini, hy, hlen, hl, hin, hse⟩ := cw
  have hK : vx_Back l R p e below s args y 3 8 (PreOf R mc ms Pc) (PostOf Qc mc ms free) (vx_Post XC mc ms free) := vx_backW (hh := hh) (bytes := bytes) (maxL := maxL) (ret := ret) hM hp.1 hrc hrs hfr hlo hws hcw (fun a' U hW => word_at hW (Or.inl (by first | rfl | simp [Cond.onTables, Cond.keeps, Cond.steady])) hini)
  obtain ⟨hx, hb, hml, ho, -⟩ := S
  obtain ⟨-, ⟨cellB, hcB, hoB, hclB⟩, hPc⟩ := hp
  intro T hT X
  rcases vx_callVX X hx (C := C) (hh := hh) (bytes := bytes) (maxL := maxL) (ret := ret) ho hl hin hse hcode hy hK (by rw [hT]; exact hcB) hoB hclB hg (hsize.trans hml.symm) (argsL := As) (rest := rest) (fun sig h => hn.trans (hlen sig h)) hstack hW (by rw [hb]; exact hdg)
    (fun vm₁ hW₁ => ⟨hf.1, hf.2, hPc (T.setVm vm₁) hT hW₁⟩) with ⟨v, vm₁, ⟨U', l2, c2, s2⟩, hW₁, X', ⟨g', mk, t, L, e1, e2, hq, h1, hL, h2, h3⟩, st⟩ | ⟨q, vm₁, ⟨U', l2, c2, s2⟩, hW₁, X', ⟨g', mk, t, L, E, ce, e1, e2, hq, hce, hcv, hcl, h1, hL, h2, h3⟩, st⟩
  · dsimp only [Pt.U, Pt.locs, Pt.cells, Pt.slots] at X' e1 e2 h1 h2 h3 st
    subst h1; subst h2; subst h3
    exact Or.inl ⟨v, (T.setVm vm₁).calling g' mk (Value.ref b :: As).toArray, t, U', L, hT, X', hL, e1, e2, hq, st⟩
  · dsimp only [Pt.U, Pt.locs, Pt.cells, Pt.slots] at X' e1 e2 h1 h2 h3 st hcl
    subst h1; subst h2; subst h3
    exact Or.inr ⟨q, (T.setVm vm₁).calling g' mk (Value.ref b :: As).toArray, t, U', L, E, ce, hT, X', hL, e1, e2, hq, hce, hcv, vx_cls hW₁ hcl, st⟩
theorem vx_runSX {hh : List (Nat × Nat × Nat × Nat)} (S : CallFix p m c cc nL s args Ts own) (hM : vx_Met l y ws rm Pc Qc XC mc ms free) (cw : vx_CSW R s args own index y bytes maxL ret hh ws rm mc ms n) (hp : PreS s H Pc As)
    (hg : g.method = m) (hn : As.length = n) (hsize : g.locals.size = nL) (hstack : g.stack = As.reverse ++ rest) (hW : 2 * g.monitorRoom + (rest.map fun v => v.category).sum ≤ 8) (hdg : decode cc g.pc = .ok (.invokestatic index, 3)) (hf : cells + mc ≤ R.cells ∧ slots + ms ≤ R.slots) :
    vx_Run p l e R s m args below meth c H locs cells slots mc ms g rest (Qc As.toArray) XC free := by
  obtain ⟨⟨hrc, hrs, hfr, hlo, hws, hcw⟩, hcode, hini, hy, hlen, hl, hstt⟩ := cw
  have hK : vx_Back l R p e below s args y 3 8 (PreOf R mc ms Pc) (PostOf Qc mc ms free) (vx_Post XC mc ms free) := vx_backW (hh := hh) (bytes := bytes) (maxL := maxL) (ret := ret) hM hp.1 hrc hrs hfr hlo hws hcw (fun a' U hW => word_at hW (Or.inl (by first | rfl | simp [Cond.onTables, Cond.keeps, Cond.steady])) hini)
  obtain ⟨hx, hb, hml, ho, -⟩ := S
  intro T hT X
  rcases vx_callSX X hx (hh := hh) (bytes := bytes) (maxL := maxL) (ret := ret) ho hl hstt hini hcode hy hK hg (hsize.trans hml.symm) (argsL := As) (rest := rest) (fun sig h => hn.trans (hlen sig h)) hstack hW (by rw [hb]; exact hdg)
    (fun vm₁ hW₁ => ⟨hf.1, hf.2, hp.2 (T.setVm vm₁) hT hW₁⟩) with ⟨v, vm₁, ⟨U', l2, c2, s2⟩, hW₁, X', ⟨g', mk, t, L, e1, e2, hq, h1, hL, h2, h3⟩, st⟩ | ⟨q, vm₁, ⟨U', l2, c2, s2⟩, hW₁, X', ⟨g', mk, t, L, E, ce, e1, e2, hq, hce, hcv, hcl, h1, hL, h2, h3⟩, st⟩
  · dsimp only [Pt.U, Pt.locs, Pt.cells, Pt.slots] at X' e1 e2 h1 h2 h3 st
    subst h1; subst h2; subst h3
    exact Or.inl ⟨v, (T.setVm vm₁).calling g' mk As.toArray, t, U', L, hT, X', hL, e1, e2, hq, st⟩
  · dsimp only [Pt.U, Pt.locs, Pt.cells, Pt.slots] at X' e1 e2 h1 h2 h3 st hcl
    subst h1; subst h2; subst h3
    exact Or.inr ⟨q, (T.setVm vm₁).calling g' mk As.toArray, t, U', L, E, ce, hT, X', hL, e1, e2, hq, hce, hcv, vx_cls hW₁ hcl, st⟩
end
end VXH
theorem vx_ofWH {l : Launch} {y : MethodName} {ws ws' : List Cond} {rm : Room} {Pc : Array Value → State → Prop} {Qc : Array Value → State → Outcome → State → Prop} {XC : String → State → State → Prop} {mc ms : Nat} {free : Addr → Prop} {cc : ByteArray} {maxL : Nat} {ret : Option FieldType} {hh : List (Nat × Nat × Nat × Nat)}
    (hy : plainName y.cls = true) (hw : ws = Cond.codeWith y cc maxL ret hh :: ws')
    (body : ∀ p e s m args below meth c s₁, BodyLoose p l y (headSpec ws rm) cc maxL ret e s m args below meth c s₁ → c.maxLocals = maxL → Pc args s →
      W p l e (headSpec ws rm).room s m args below meth c s.heap [] 0 0 (vx_MQ below Qc XC args s mc ms free) (entryFrame m args maxL)) : vx_Met l y ws rm Pc Qc XC mc ms free := by
  refine MetFree.of_bodyS (code := cc) (maxLocals := maxL) (ret := ret) hy ?_ ?_
  · intro args s m h hn
    obtain ⟨m9, meth, c, hn9, h1, h2, h3, h4, -, h5, h6, -⟩ := Cond.codeWith_spec (atoms_spec (ws := ws) h _ (by rw [hw]; exact List.mem_cons_self))
    cases hn.symm.trans hn9
    exact ⟨meth, c, h1, h2, h3, h4, h5, h6⟩
  · intro p e s m args below meth c s₁ B hml hP _
    have hh0 : s₁.heap = s.heap := by rw [B.state]; rfl
    obtain ⟨t, a1, o, b1, b2, b3⟩ := body p e s m args below meth c s₁ B hml hP s₁ hh0 (Stand.of_body B)
    exact ⟨t, o, a1, b1, b2, b3⟩
/-! ===== END ===== -/
end
section
/-! ===== BEGIN printed: names, fields, word lists, decode rows ===== -/
def RX0 : String := "BirdParlour$Bird"
def TX0 : u_T := fun k => match k with
  | 0 => ("BirdParlour$Bird", "spring", "I", true)
  | 1 => ("BirdParlour$Bird", "weight", "I", true)
  | 2 => ("BirdParlour$Bird", "places", "I", true)
  | 3 => ("BirdParlour$Bird", "p", "I", true)
  | 4 => ("BirdParlour$Bird", "q", "I", true)
  | 5 => ("BirdParlour$Bird", "levers", "[I", true)
  | 6 => ("BirdParlour$Bird", "notes", "[I", true)
  | 7 => ("BirdParlour$Bird", "cams", "[LBirdParlour$Cam;", true)
  | 8 => ("BirdParlour$Bird", "pins", "I", false)
  | 9 => ("BirdParlour$Bird", "isEngaged", "Z", false)
  | 10 => ("BirdParlour$Bird", "shaftAtStart", "J", false)
  | 11 => ("BirdParlour$Bird", "gone", "J", false)
  | 12 => ("BirdParlour$Bird", "sounded", "I", false)
  | 13 => ("BirdParlour$Bird", "goneBefore", "J", false)
  | _ => ("BirdParlour$Bird", "soundedBefore", "I", false)
def tyX0 : Nat → FieldType := fun k => match k with
  | 0 => .int
  | 1 => .int
  | 2 => .int
  | 3 => .int
  | 4 => .int
  | 5 => .array .int
  | 6 => .array .int
  | 7 => .array (.object "BirdParlour$Cam")
  | 8 => .int
  | 9 => .boolean
  | 10 => .long
  | 11 => .long
  | 12 => .int
  | 13 => .long
  | _ => .int
abbrev wsX00 : List Cond := u_ws RX0 TX0 15
theorem nmX0 : ∀ a, a < 15 → ∀ b, b < 15 → a ≠ b → (TX0 a).2.1 ≠ (TX0 b).2.1 := by decide +kernel
theorem tyX0_ok : ∀ k, k < 15 → parseFieldDescriptor (TX0 k).2.2.1 = some (tyX0 k) := by decide +kernel
abbrev cX0_init : ByteArray := prog_2_method_1_code
def yX0_init : MethodName := ⟨RX0, "<init>", "(IIIIIJ)V"⟩
abbrev cX0_remember : ByteArray := prog_2_method_2_code
def yX0_remember : MethodName := ⟨RX0, "remember", "()V"⟩
abbrev cX0_recall : ByteArray := prog_2_method_3_code
def yX0_recall : MethodName := ⟨RX0, "recall", "()V"⟩
abbrev cX0_isDrivenBy : ByteArray := prog_2_method_4_code
def yX0_isDrivenBy : MethodName := ⟨RX0, "isDrivenBy", "(I)Z"⟩
abbrev cX0_startAnew : ByteArray := prog_2_method_5_code
def yX0_startAnew : MethodName := ⟨RX0, "startAnew", "(J)V"⟩
abbrev cX0_goneWhen : ByteArray := prog_2_method_6_code
def yX0_goneWhen : MethodName := ⟨RX0, "goneWhen", "(J)J"⟩
abbrev cX0_placeWhenGone : ByteArray := prog_2_method_7_code
def yX0_placeWhenGone : MethodName := ⟨RX0, "placeWhenGone", "(J)I"⟩
abbrev cX0_placeNow : ByteArray := prog_2_method_8_code
def yX0_placeNow : MethodName := ⟨RX0, "placeNow", "()I"⟩
abbrev cX0_hasPlace : ByteArray := prog_2_method_9_code
def yX0_hasPlace : MethodName := ⟨RX0, "hasPlace", "(I)Z"⟩
abbrev cX0_hasPin : ByteArray := prog_2_method_10_code
def yX0_hasPin : MethodName := ⟨RX0, "hasPin", "(II)Z"⟩
abbrev cX0_turnPin : ByteArray := prog_2_method_11_code
def yX0_turnPin : MethodName := ⟨RX0, "turnPin", "(II)V"⟩
abbrev cX0_camAt : ByteArray := prog_2_method_12_code
def yX0_camAt : MethodName := ⟨RX0, "camAt", "(I)LBirdParlour$Cam;"⟩
abbrev cX0_burden : ByteArray := prog_2_method_13_code
def yX0_burden : MethodName := ⟨RX0, "burden", "()I"⟩
def RX1 : String := "BirdParlour$Cam"
def TX1 : u_T := fun k => match k with
  | 0 => ("BirdParlour$Cam", "marks", "[I", true)
  | 1 => ("BirdParlour$Cam", "lifts", "[I", true)
  | _ => ("BirdParlour$Cam", "points", "I", false)
def tyX1 : Nat → FieldType := fun k => match k with
  | 0 => .array .int
  | 1 => .array .int
  | _ => .int
abbrev wsX10 : List Cond := u_ws RX1 TX1 3
theorem nmX1 : ∀ a, a < 3 → ∀ b, b < 3 → a ≠ b → (TX1 a).2.1 ≠ (TX1 b).2.1 := by decide +kernel
theorem tyX1_ok : ∀ k, k < 3 → parseFieldDescriptor (TX1 k).2.2.1 = some (tyX1 k) := by decide +kernel
abbrev cX1_init : ByteArray := prog_3_method_1_code
def yX1_init : MethodName := ⟨RX1, "<init>", "()V"⟩
abbrev cX1_hasPoint : ByteArray := prog_3_method_2_code
def yX1_hasPoint : MethodName := ⟨RX1, "hasPoint", "(I)Z"⟩
abbrev cX1_layPoint : ByteArray := prog_3_method_3_code
def yX1_layPoint : MethodName := ⟨RX1, "layPoint", "(III)V"⟩
abbrev cX1_takePoint : ByteArray := prog_3_method_4_code
def yX1_takePoint : MethodName := ⟨RX1, "takePoint", "(II)V"⟩
abbrev cX1_draw : ByteArray := prog_3_method_5_code
def yX1_draw : MethodName := ⟨RX1, "draw", "(I)V"⟩
abbrev cX1_drawBehind : ByteArray := prog_3_method_6_code
def yX1_drawBehind : MethodName := ⟨RX1, "drawBehind", "(II)V"⟩
def RX2 : String := "BirdParlour$Songs"
def TX2 : u_T := fun k => match k with
  | 0 => ("BirdParlour$Songs", "kept", "[I", true)
  | 1 => ("BirdParlour$Songs", "keptNotes", "I", false)
  | 2 => ("BirdParlour$Songs", "allNotes", "I", false)
  | 3 => ("BirdParlour$Songs", "keptBefore", "I", false)
  | _ => ("BirdParlour$Songs", "allBefore", "I", false)
def tyX2 : Nat → FieldType := fun k => match k with
  | 0 => .array .int
  | 1 => .int
  | 2 => .int
  | 3 => .int
  | _ => .int
abbrev wsX20 : List Cond := u_ws RX2 TX2 5
theorem nmX2 : ∀ a, a < 5 → ∀ b, b < 5 → a ≠ b → (TX2 a).2.1 ≠ (TX2 b).2.1 := by decide +kernel
theorem tyX2_ok : ∀ k, k < 5 → parseFieldDescriptor (TX2 k).2.2.1 = some (tyX2 k) := by decide +kernel
abbrev cX2_init : ByteArray := prog_4_method_1_code
def yX2_init : MethodName := ⟨RX2, "<init>", "()V"⟩
abbrev cX2_remember : ByteArray := prog_4_method_2_code
def yX2_remember : MethodName := ⟨RX2, "remember", "()V"⟩
abbrev cX2_recall : ByteArray := prog_4_method_3_code
def yX2_recall : MethodName := ⟨RX2, "recall", "()V"⟩
abbrev cX2_hear : ByteArray := prog_4_method_4_code
def yX2_hear : MethodName := ⟨RX2, "hear", "(IIII)V"⟩
abbrev cX2_told : ByteArray := prog_4_method_5_code
def yX2_told : MethodName := ⟨RX2, "told", "(II)I"⟩
abbrev cX2_clearAll : ByteArray := prog_4_method_6_code
def yX2_clearAll : MethodName := ⟨RX2, "clearAll", "()V"⟩
def RX3 : String := "BirdParlour$Spring"
def TX3 : u_T := fun k => match k with
  | 0 => ("BirdParlour$Spring", "strength", "I", true)
  | 1 => ("BirdParlour$Spring", "held", "I", false)
  | 2 => ("BirdParlour$Spring", "shaft", "J", false)
  | 3 => ("BirdParlour$Spring", "speed", "I", false)
  | 4 => ("BirdParlour$Spring", "isBraked", "Z", false)
  | 5 => ("BirdParlour$Spring", "heldBefore", "I", false)
  | 6 => ("BirdParlour$Spring", "shaftBefore", "J", false)
  | _ => ("BirdParlour$Spring", "speedBefore", "I", false)
def tyX3 : Nat → FieldType := fun k => match k with
  | 0 => .int
  | 1 => .int
  | 2 => .long
  | 3 => .int
  | 4 => .boolean
  | 5 => .int
  | 6 => .long
  | _ => .int
abbrev wsX30 : List Cond := u_ws RX3 TX3 8
theorem nmX3 : ∀ a, a < 8 → ∀ b, b < 8 → a ≠ b → (TX3 a).2.1 ≠ (TX3 b).2.1 := by decide +kernel
theorem tyX3_ok : ∀ k, k < 8 → parseFieldDescriptor (TX3 k).2.2.1 = some (tyX3 k) := by decide +kernel
abbrev cX3_init : ByteArray := prog_5_method_1_code
def yX3_init : MethodName := ⟨RX3, "<init>", "(I)V"⟩
abbrev cX3_remember : ByteArray := prog_5_method_2_code
def yX3_remember : MethodName := ⟨RX3, "remember", "()V"⟩
abbrev cX3_recall : ByteArray := prog_5_method_3_code
def yX3_recall : MethodName := ⟨RX3, "recall", "()V"⟩
abbrev cX3_speedUnder : ByteArray := prog_5_method_4_code
def yX3_speedUnder : MethodName := ⟨RX3, "speedUnder", "(I)I"⟩
abbrev cX3_turn : ByteArray := prog_5_method_5_code
def yX3_turn : MethodName := ⟨RX3, "turn", "(I)V"⟩
abbrev cX3_payForNote : ByteArray := prog_5_method_6_code
def yX3_payForNote : MethodName := ⟨RX3, "payForNote", "()V"⟩
def RX4 : String := "BirdParlour"
def TX4 : u_T := fun k => match k with
  | 0 => ("BirdParlour", "springs", "[LBirdParlour$Spring;", true)
  | 1 => ("BirdParlour", "birds", "[LBirdParlour$Bird;", true)
  | 2 => ("BirdParlour", "songs", "LBirdParlour$Songs;", true)
  | 3 => ("BirdParlour", "springCount", "I", false)
  | 4 => ("BirdParlour", "birdCount", "I", false)
  | 5 => ("BirdParlour", "couplings", "I", false)
  | _ => ("BirdParlour", "tick", "I", false)
def tyX4 : Nat → FieldType := fun k => match k with
  | 0 => .array (.object "BirdParlour$Spring")
  | 1 => .array (.object "BirdParlour$Bird")
  | 2 => .object "BirdParlour$Songs"
  | 3 => .int
  | 4 => .int
  | 5 => .int
  | _ => .int
abbrev wsX40 : List Cond := u_ws RX4 TX4 7
theorem nmX4 : ∀ a, a < 7 → ∀ b, b < 7 → a ≠ b → (TX4 a).2.1 ≠ (TX4 b).2.1 := by decide +kernel
theorem tyX4_ok : ∀ k, k < 7 → parseFieldDescriptor (TX4 k).2.2.1 = some (tyX4 k) := by decide +kernel
abbrev cX4_init : ByteArray := prog_1_method_1_code
def yX4_init : MethodName := ⟨RX4, "<init>", "()V"⟩
abbrev cX4_addSpring : ByteArray := prog_1_method_2_code
def yX4_addSpring : MethodName := ⟨RX4, "addSpring", "(I)I"⟩
abbrev cX4_wind : ByteArray := prog_1_method_3_code
def yX4_wind : MethodName := ⟨RX4, "wind", "(II)I"⟩
abbrev cX4_brake : ByteArray := prog_1_method_4_code
def yX4_brake : MethodName := ⟨RX4, "brake", "(IZ)Z"⟩
abbrev cX4_couple : ByteArray := prog_1_method_5_code
def yX4_couple : MethodName := ⟨RX4, "couple", "(IIZ)I"⟩
abbrev cX4_spring : ByteArray := prog_1_method_6_code
def yX4_spring : MethodName := ⟨RX4, "spring", "(II)I"⟩
abbrev cX4_addBird : ByteArray := prog_1_method_7_code
def yX4_addBird : MethodName := ⟨RX4, "addBird", "(IIIII)I"⟩
abbrev cX4_engage : ByteArray := prog_1_method_8_code
def yX4_engage : MethodName := ⟨RX4, "engage", "(IZ)Z"⟩
abbrev cX4_pin : ByteArray := prog_1_method_9_code
def yX4_pin : MethodName := ⟨RX4, "pin", "(III)I"⟩
abbrev cX4_tune : ByteArray := prog_1_method_10_code
def yX4_tune : MethodName := ⟨RX4, "tune", "(III)I"⟩
abbrev cX4_point : ByteArray := prog_1_method_11_code
def yX4_point : MethodName := ⟨RX4, "point", "(IIII)I"⟩
abbrev cX4_bird : ByteArray := prog_1_method_12_code
def yX4_bird : MethodName := ⟨RX4, "bird", "(II)I"⟩
abbrev cX4_lift : ByteArray := prog_1_method_13_code
def yX4_lift : MethodName := ⟨RX4, "lift", "(III)I"⟩
abbrev cX4_run : ByteArray := prog_1_method_14_code
def yX4_run : MethodName := ⟨RX4, "run", "(I)I"⟩
abbrev cX4_count : ByteArray := prog_1_method_15_code
def yX4_count : MethodName := ⟨RX4, "count", "(I)I"⟩
abbrev cX4_sung : ByteArray := prog_1_method_16_code
def yX4_sung : MethodName := ⟨RX4, "sung", "(II)I"⟩
abbrev cX4_chord : ByteArray := prog_1_method_17_code
def yX4_chord : MethodName := ⟨RX4, "chord", "(I)I"⟩
abbrev cX4_longest : ByteArray := prog_1_method_18_code
def yX4_longest : MethodName := ⟨RX4, "longest", "()I"⟩
abbrev cX4_emptySongs : ByteArray := prog_1_method_19_code
def yX4_emptySongs : MethodName := ⟨RX4, "emptySongs", "()I"⟩
abbrev cX4_runsDown : ByteArray := prog_1_method_20_code
def yX4_runsDown : MethodName := ⟨RX4, "runsDown", "(I)I"⟩
abbrev cX4_tension : ByteArray := prog_1_method_21_code
def yX4_tension : MethodName := ⟨RX4, "tension", "()D"⟩
abbrev cX4_digest : ByteArray := prog_1_method_22_code
def yX4_digest : MethodName := ⟨RX4, "digest", "()J"⟩
abbrev cX4_goOneTick : ByteArray := prog_1_method_23_code
def yX4_goOneTick : MethodName := ⟨RX4, "goOneTick", "()I"⟩
abbrev cX4_shareBetweenCoupled : ByteArray := prog_1_method_24_code
def yX4_shareBetweenCoupled : MethodName := ⟨RX4, "shareBetweenCoupled", "()V"⟩
abbrev cX4_shareBetween : ByteArray := prog_1_method_25_code
def yX4_shareBetween : MethodName := ⟨RX4, "shareBetween", "(LBirdParlour$Spring;LBirdParlour$Spring;)V"⟩
abbrev cX4_goShaft : ByteArray := prog_1_method_26_code
def yX4_goShaft : MethodName := ⟨RX4, "goShaft", "(ILBirdParlour$Spring;)I"⟩
abbrev cX4_goBarrel : ByteArray := prog_1_method_27_code
def yX4_goBarrel : MethodName := ⟨RX4, "goBarrel", "(ILBirdParlour$Bird;LBirdParlour$Spring;)I"⟩
abbrev cX4_soundPlace : ByteArray := prog_1_method_28_code
def yX4_soundPlace : MethodName := ⟨RX4, "soundPlace", "(ILBirdParlour$Bird;LBirdParlour$Spring;I)I"⟩
abbrev cX4_springAt : ByteArray := prog_1_method_29_code
def yX4_springAt : MethodName := ⟨RX4, "springAt", "(I)LBirdParlour$Spring;"⟩
abbrev cX4_birdAt : ByteArray := prog_1_method_30_code
def yX4_birdAt : MethodName := ⟨RX4, "birdAt", "(I)LBirdParlour$Bird;"⟩
abbrev cX4_birdsDrivenBy : ByteArray := prog_1_method_31_code
def yX4_birdsDrivenBy : MethodName := ⟨RX4, "birdsDrivenBy", "(I)I"⟩
abbrev cX4_loadOn : ByteArray := prog_1_method_32_code
def yX4_loadOn : MethodName := ⟨RX4, "loadOn", "(I)I"⟩
abbrev cX4_heldByAll : ByteArray := prog_1_method_33_code
def yX4_heldByAll : MethodName := ⟨RX4, "heldByAll", "()I"⟩
abbrev cX4_areAllDown : ByteArray := prog_1_method_34_code
def yX4_areAllDown : MethodName := ⟨RX4, "areAllDown", "()Z"⟩
abbrev cX4_rememberAll : ByteArray := prog_1_method_35_code
def yX4_rememberAll : MethodName := ⟨RX4, "rememberAll", "()V"⟩
abbrev cX4_recallAll : ByteArray := prog_1_method_36_code
def yX4_recallAll : MethodName := ⟨RX4, "recallAll", "()V"⟩
abbrev cX4_mixBird : ByteArray := prog_1_method_37_code
def yX4_mixBird : MethodName := ⟨RX4, "mixBird", "(JI)J"⟩
abbrev cX4_mix : ByteArray := prog_1_method_38_code
def yX4_mix : MethodName := ⟨RX4, "mix", "(JI)J"⟩
abbrev cX4_pairBit : ByteArray := prog_1_method_39_code
def yX4_pairBit : MethodName := ⟨RX4, "pairBit", "(II)I"⟩
abbrev cX4_isIn : ByteArray := prog_1_method_40_code
def yX4_isIn : MethodName := ⟨RX4, "isIn", "(III)Z"⟩
abbrev cX4_remainder : ByteArray := prog_1_method_41_code
def yX4_remainder : MethodName := ⟨RX4, "remainder", "(II)I"⟩
abbrev cX4_at : ByteArray := prog_1_method_42_code
def yX4_at : MethodName := ⟨RX4, "at", "([II)I"⟩
abbrev cX4_put : ByteArray := prog_1_method_43_code
def yX4_put : MethodName := ⟨RX4, "put", "([III)V"⟩
def RX5 : String := "BirdParlourModel"
def TX5 : u_T := fun k => match k with
  | 0 => ("BirdParlourModel", "thrown", "I", false)
  | 1 => ("BirdParlourModel", "tick", "I", false)
  | 2 => ("BirdParlourModel", "springs", "I", false)
  | 3 => ("BirdParlourModel", "birds", "I", false)
  | 4 => ("BirdParlourModel", "springTable", "[I", true)
  | 5 => ("BirdParlourModel", "birdTable", "[I", true)
  | 6 => ("BirdParlourModel", "coupled", "[Z", true)
  | 7 => ("BirdParlourModel", "pins", "[I", true)
  | 8 => ("BirdParlourModel", "notes", "[I", true)
  | 9 => ("BirdParlourModel", "cams", "[I", true)
  | 10 => ("BirdParlourModel", "sounded", "I", false)
  | 11 => ("BirdParlourModel", "kept", "I", false)
  | 12 => ("BirdParlourModel", "songs", "[I", true)
  | 13 => ("BirdParlourModel", "isAhead", "Z", false)
  | 14 => ("BirdParlourModel", "spareSprings", "[I", true)
  | _ => ("BirdParlourModel", "spareBirds", "[I", true)
def tyX5 : Nat → FieldType := fun k => match k with
  | 0 => .int
  | 1 => .int
  | 2 => .int
  | 3 => .int
  | 4 => .array .int
  | 5 => .array .int
  | 6 => .array .boolean
  | 7 => .array .int
  | 8 => .array .int
  | 9 => .array .int
  | 10 => .int
  | 11 => .int
  | 12 => .array .int
  | 13 => .boolean
  | 14 => .array .int
  | _ => .array .int
abbrev wsX50 : List Cond := u_ws RX5 TX5 16
theorem nmX5 : ∀ a, a < 16 → ∀ b, b < 16 → a ≠ b → (TX5 a).2.1 ≠ (TX5 b).2.1 := by decide +kernel
theorem tyX5_ok : ∀ k, k < 16 → parseFieldDescriptor (TX5 k).2.2.1 = some (tyX5 k) := by decide +kernel
abbrev cX5_init : ByteArray := prog_7_method_1_code
def yX5_init : MethodName := ⟨RX5, "<init>", "()V"⟩
abbrev cX5_thrown : ByteArray := prog_7_method_2_code
def yX5_thrown : MethodName := ⟨RX5, "thrown", "()I"⟩
abbrev cX5_fail : ByteArray := prog_7_method_3_code
def yX5_fail : MethodName := ⟨RX5, "fail", "(I)I"⟩
abbrev cX5_isIn : ByteArray := prog_7_method_4_code
def yX5_isIn : MethodName := ⟨RX5, "isIn", "(III)Z"⟩
abbrev cX5_isSpring : ByteArray := prog_7_method_5_code
def yX5_isSpring : MethodName := ⟨RX5, "isSpring", "(I)Z"⟩
abbrev cX5_isBird : ByteArray := prog_7_method_6_code
def yX5_isBird : MethodName := ⟨RX5, "isBird", "(I)Z"⟩
abbrev cX5_get : ByteArray := prog_7_method_7_code
def yX5_get : MethodName := ⟨RX5, "get", "(II)I"⟩
abbrev cX5_set : ByteArray := prog_7_method_8_code
def yX5_set : MethodName := ⟨RX5, "set", "(III)V"⟩
abbrev cX5_addSpring : ByteArray := prog_7_method_9_code
def yX5_addSpring : MethodName := ⟨RX5, "addSpring", "(I)I"⟩
abbrev cX5_wind : ByteArray := prog_7_method_10_code
def yX5_wind : MethodName := ⟨RX5, "wind", "(II)I"⟩
abbrev cX5_brake : ByteArray := prog_7_method_11_code
def yX5_brake : MethodName := ⟨RX5, "brake", "(IZ)Z"⟩
abbrev cX5_pairs : ByteArray := prog_7_method_12_code
def yX5_pairs : MethodName := ⟨RX5, "pairs", "()I"⟩
abbrev cX5_couple : ByteArray := prog_7_method_13_code
def yX5_couple : MethodName := ⟨RX5, "couple", "(IIZ)I"⟩
abbrev cX5_load : ByteArray := prog_7_method_14_code
def yX5_load : MethodName := ⟨RX5, "load", "(I)I"⟩
abbrev cX5_springTold : ByteArray := prog_7_method_15_code
def yX5_springTold : MethodName := ⟨RX5, "springTold", "(II)I"⟩
abbrev cX5_spring : ByteArray := prog_7_method_16_code
def yX5_spring : MethodName := ⟨RX5, "spring", "(II)I"⟩
abbrev cX5_addBird : ByteArray := prog_7_method_17_code
def yX5_addBird : MethodName := ⟨RX5, "addBird", "(IIIII)I"⟩
abbrev cX5_engage : ByteArray := prog_7_method_18_code
def yX5_engage : MethodName := ⟨RX5, "engage", "(IZ)Z"⟩
abbrev cX5_pin : ByteArray := prog_7_method_19_code
def yX5_pin : MethodName := ⟨RX5, "pin", "(III)I"⟩
abbrev cX5_tune : ByteArray := prog_7_method_20_code
def yX5_tune : MethodName := ⟨RX5, "tune", "(III)I"⟩
abbrev cX5_cam : ByteArray := prog_7_method_21_code
def yX5_cam : MethodName := ⟨RX5, "cam", "(II)I"⟩
abbrev cX5_pointsOf : ByteArray := prog_7_method_22_code
def yX5_pointsOf : MethodName := ⟨RX5, "pointsOf", "(II)I"⟩
abbrev cX5_point : ByteArray := prog_7_method_23_code
def yX5_point : MethodName := ⟨RX5, "point", "(IIII)I"⟩
abbrev cX5_liftAt : ByteArray := prog_7_method_24_code
def yX5_liftAt : MethodName := ⟨RX5, "liftAt", "(III)I"⟩
abbrev cX5_bird : ByteArray := prog_7_method_25_code
def yX5_bird : MethodName := ⟨RX5, "bird", "(II)I"⟩
abbrev cX5_lift : ByteArray := prog_7_method_26_code
def yX5_lift : MethodName := ⟨RX5, "lift", "(III)I"⟩
abbrev cX5_sp : ByteArray := prog_7_method_27_code
def yX5_sp : MethodName := ⟨RX5, "sp", "(II)I"⟩
abbrev cX5_note : ByteArray := prog_7_method_28_code
def yX5_note : MethodName := ⟨RX5, "note", "(II)V"⟩
abbrev cX5_turn : ByteArray := prog_7_method_29_code
def yX5_turn : MethodName := ⟨RX5, "turn", "(I)V"⟩
abbrev cX5_oneTick : ByteArray := prog_7_method_30_code
def yX5_oneTick : MethodName := ⟨RX5, "oneTick", "()V"⟩
abbrev cX5_run : ByteArray := prog_7_method_31_code
def yX5_run : MethodName := ⟨RX5, "run", "(I)I"⟩
abbrev cX5_heldByAll : ByteArray := prog_7_method_32_code
def yX5_heldByAll : MethodName := ⟨RX5, "heldByAll", "()I"⟩
abbrev cX5_counted : ByteArray := prog_7_method_33_code
def yX5_counted : MethodName := ⟨RX5, "counted", "(I)I"⟩
abbrev cX5_count : ByteArray := prog_7_method_34_code
def yX5_count : MethodName := ⟨RX5, "count", "(I)I"⟩
abbrev cX5_sung : ByteArray := prog_7_method_35_code
def yX5_sung : MethodName := ⟨RX5, "sung", "(II)I"⟩
abbrev cX5_chord : ByteArray := prog_7_method_36_code
def yX5_chord : MethodName := ⟨RX5, "chord", "(I)I"⟩
abbrev cX5_longest : ByteArray := prog_7_method_37_code
def yX5_longest : MethodName := ⟨RX5, "longest", "()I"⟩
abbrev cX5_emptySongs : ByteArray := prog_7_method_38_code
def yX5_emptySongs : MethodName := ⟨RX5, "emptySongs", "()I"⟩
abbrev cX5_isDown : ByteArray := prog_7_method_39_code
def yX5_isDown : MethodName := ⟨RX5, "isDown", "()Z"⟩
abbrev cX5_runsDown : ByteArray := prog_7_method_40_code
def yX5_runsDown : MethodName := ⟨RX5, "runsDown", "(I)I"⟩
abbrev cX5_tension : ByteArray := prog_7_method_41_code
def yX5_tension : MethodName := ⟨RX5, "tension", "()D"⟩
abbrev cX5_digest : ByteArray := prog_7_method_42_code
def yX5_digest : MethodName := ⟨RX5, "digest", "()J"⟩
def RJ6 : String := "java/lang/Integer"
def TJ6 : u_T := fun k => match k with
  | _ => ("", "", "", false)
def tyJ6 : Nat → FieldType := fun k => match k with
  | _ => .int
abbrev wsJ60 : List Cond := u_ws RJ6 TJ6 0
theorem nmJ6 : ∀ a, a < 0 → ∀ b, b < 0 → a ≠ b → (TJ6 a).2.1 ≠ (TJ6 b).2.1 := by decide +kernel
theorem tyJ6_ok : ∀ k, k < 0 → parseFieldDescriptor (TJ6 k).2.2.1 = some (tyJ6 k) := by decide +kernel
abbrev cJ6_bitCount_0f7a4 : ByteArray := prog_12_method_49_code
def yJ6_bitCount_0f7a4 : MethodName := ⟨RJ6, "bitCount", "(I)I"⟩
def RJ13 : String := "java/lang/Long"
def TJ13 : u_T := fun k => match k with
  | _ => ("", "", "", false)
def tyJ13 : Nat → FieldType := fun k => match k with
  | _ => .int
abbrev wsJ130 : List Cond := u_ws RJ13 TJ13 0
theorem nmJ13 : ∀ a, a < 0 → ∀ b, b < 0 → a ≠ b → (TJ13 a).2.1 ≠ (TJ13 b).2.1 := by decide +kernel
theorem tyJ13_ok : ∀ k, k < 0 → parseFieldDescriptor (TJ13 k).2.2.1 = some (tyJ13 k) := by decide +kernel
abbrev cJ13_bitCount_95d88 : ByteArray := prog_13_method_50_code
def yJ13_bitCount_95d88 : MethodName := ⟨RJ13, "bitCount", "(J)I"⟩
def RJ9 : String := "java/lang/Math"
def TJ9 : u_T := fun k => match k with
  | _ => ("", "", "", false)
def tyJ9 : Nat → FieldType := fun k => match k with
  | _ => .int
abbrev wsJ90 : List Cond := u_ws RJ9 TJ9 0
theorem nmJ9 : ∀ a, a < 0 → ∀ b, b < 0 → a ≠ b → (TJ9 a).2.1 ≠ (TJ9 b).2.1 := by decide +kernel
theorem tyJ9_ok : ∀ k, k < 0 → parseFieldDescriptor (TJ9 k).2.2.1 = some (tyJ9 k) := by decide +kernel
abbrev cJ9_floorDiv_7cf53 : ByteArray := prog_14_method_47_code
def yJ9_floorDiv_7cf53 : MethodName := ⟨RJ9, "floorDiv", "(II)I"⟩
abbrev cJ9_max_7cf53 : ByteArray := prog_14_method_65_code
def yJ9_max_7cf53 : MethodName := ⟨RJ9, "max", "(II)I"⟩
abbrev cJ9_min_7cf53 : ByteArray := prog_14_method_69_code
def yJ9_min_7cf53 : MethodName := ⟨RJ9, "min", "(II)I"⟩
abbrev cJ9_min_f86c9 : ByteArray := prog_14_method_70_code
def yJ9_min_f86c9 : MethodName := ⟨RJ9, "min", "(JJ)J"⟩
def RJ0 : String := "java/lang/String"
def TJ0 : u_T := fun k => match k with
  | _ => ("", "", "", false)
def tyJ0 : Nat → FieldType := fun k => match k with
  | _ => .int
abbrev wsJ00 : List Cond := u_ws RJ0 TJ0 0
theorem nmJ0 : ∀ a, a < 0 → ∀ b, b < 0 → a ≠ b → (TJ0 a).2.1 ≠ (TJ0 b).2.1 := by decide +kernel
theorem tyJ0_ok : ∀ k, k < 0 → parseFieldDescriptor (TJ0 k).2.2.1 = some (tyJ0 k) := by decide +kernel
def RJ10 : String := "java/lang/System"
def TJ10 : u_T := fun k => match k with
  | _ => ("", "", "", false)
def tyJ10 : Nat → FieldType := fun k => match k with
  | _ => .int
abbrev wsJ100 : List Cond := u_ws RJ10 TJ10 0
theorem nmJ10 : ∀ a, a < 0 → ∀ b, b < 0 → a ≠ b → (TJ10 a).2.1 ≠ (TJ10 b).2.1 := by decide +kernel
theorem tyJ10_ok : ∀ k, k < 0 → parseFieldDescriptor (TJ10 k).2.2.1 = some (tyJ10 k) := by decide +kernel
def RL : String := "BirdParlourLaw"
abbrev cL_addSpring : ByteArray := method_3_code
def yL_addSpring : MethodName := ⟨RL, "addSpring", "(LBirdParlour;I[J)I"⟩
abbrev cL_wind : ByteArray := method_4_code
def yL_wind : MethodName := ⟨RL, "wind", "(LBirdParlour;II[J)I"⟩
abbrev cL_brake : ByteArray := method_5_code
def yL_brake : MethodName := ⟨RL, "brake", "(LBirdParlour;IZ[J)I"⟩
abbrev cL_couple : ByteArray := method_6_code
def yL_couple : MethodName := ⟨RL, "couple", "(LBirdParlour;IIZ[J)I"⟩
abbrev cL_spring : ByteArray := method_7_code
def yL_spring : MethodName := ⟨RL, "spring", "(LBirdParlour;II[J)I"⟩
abbrev cL_addBird : ByteArray := method_8_code
def yL_addBird : MethodName := ⟨RL, "addBird", "(LBirdParlour;IIIII[J)I"⟩
abbrev cL_engage : ByteArray := method_9_code
def yL_engage : MethodName := ⟨RL, "engage", "(LBirdParlour;IZ[J)I"⟩
abbrev cL_pin : ByteArray := method_10_code
def yL_pin : MethodName := ⟨RL, "pin", "(LBirdParlour;III[J)I"⟩
abbrev cL_tune : ByteArray := method_11_code
def yL_tune : MethodName := ⟨RL, "tune", "(LBirdParlour;III[J)I"⟩
abbrev cL_point : ByteArray := method_12_code
def yL_point : MethodName := ⟨RL, "point", "(LBirdParlour;IIII[J)I"⟩
abbrev cL_bird : ByteArray := method_13_code
def yL_bird : MethodName := ⟨RL, "bird", "(LBirdParlour;II[J)I"⟩
abbrev cL_lift : ByteArray := method_14_code
def yL_lift : MethodName := ⟨RL, "lift", "(LBirdParlour;III[J)I"⟩
abbrev cL_run : ByteArray := method_15_code
def yL_run : MethodName := ⟨RL, "run", "(LBirdParlour;I[J)I"⟩
abbrev cL_count : ByteArray := method_16_code
def yL_count : MethodName := ⟨RL, "count", "(LBirdParlour;I[J)I"⟩
abbrev cL_sung : ByteArray := method_17_code
def yL_sung : MethodName := ⟨RL, "sung", "(LBirdParlour;II[J)I"⟩
abbrev cL_chord : ByteArray := method_18_code
def yL_chord : MethodName := ⟨RL, "chord", "(LBirdParlour;I[J)I"⟩
abbrev cL_runsDown : ByteArray := method_19_code
def yL_runsDown : MethodName := ⟨RL, "runsDown", "(LBirdParlour;I[J)I"⟩
abbrev cL_law : ByteArray := code
def yL_law : MethodName := ⟨RL, "law", "([I)Z"⟩
abbrev vwCl : List vw_C := [(RX0, TX0, 15), (RX1, TX1, 3), (RX2, TX2, 5), (RX3, TX3, 8), (RX4, TX4, 7), (RX5, TX5, 16)]
end
section
theorem dX0_init_0 : decode cX0_init 0 = .ok (.aload_n 0, 1) := by decide +kernel
theorem dX0_init_1 : decode cX0_init 1 = .ok (.invokespecial 3, 3) := by decide +kernel
theorem dX0_init_4 : decode cX0_init 4 = .ok (.aload_n 0, 1) := by decide +kernel
theorem dX0_init_5 : decode cX0_init 5 = .ok (.bipush 96, 2) := by decide +kernel
theorem dX0_init_7 : decode cX0_init 7 = .ok (.newarray .int, 2) := by decide +kernel
theorem dX0_init_9 : decode cX0_init 9 = .ok (.putfield 9, 3) := by decide +kernel
theorem dX0_init_12 : decode cX0_init 12 = .ok (.aload_n 0, 1) := by decide +kernel
theorem dX0_init_13 : decode cX0_init 13 = .ok (.bipush 6, 2) := by decide +kernel
theorem dX0_init_15 : decode cX0_init 15 = .ok (.newarray .int, 2) := by decide +kernel
theorem dX0_init_17 : decode cX0_init 17 = .ok (.putfield 15, 3) := by decide +kernel
theorem dX0_init_20 : decode cX0_init 20 = .ok (.aload_n 0, 1) := by decide +kernel
theorem dX0_init_21 : decode cX0_init 21 = .ok (.iconst 3, 1) := by decide +kernel
theorem dX0_init_22 : decode cX0_init 22 = .ok (.anewarray 18, 3) := by decide +kernel
theorem dX0_init_25 : decode cX0_init 25 = .ok (.putfield 20, 3) := by decide +kernel
theorem dX0_init_28 : decode cX0_init 28 = .ok (.aload_n 0, 1) := by decide +kernel
theorem dX0_init_29 : decode cX0_init 29 = .ok (.iload_n 1, 1) := by decide +kernel
theorem dX0_init_30 : decode cX0_init 30 = .ok (.putfield 24, 3) := by decide +kernel
theorem dX0_init_33 : decode cX0_init 33 = .ok (.aload_n 0, 1) := by decide +kernel
theorem dX0_init_34 : decode cX0_init 34 = .ok (.iload_n 2, 1) := by decide +kernel
theorem dX0_init_35 : decode cX0_init 35 = .ok (.putfield 28, 3) := by decide +kernel
theorem dX0_init_38 : decode cX0_init 38 = .ok (.aload_n 0, 1) := by decide +kernel
theorem dX0_init_39 : decode cX0_init 39 = .ok (.iload_n 3, 1) := by decide +kernel
theorem dX0_init_40 : decode cX0_init 40 = .ok (.putfield 31, 3) := by decide +kernel
theorem dX0_init_43 : decode cX0_init 43 = .ok (.aload_n 0, 1) := by decide +kernel
theorem dX0_init_44 : decode cX0_init 44 = .ok (.iload 4, 2) := by decide +kernel
theorem dX0_init_46 : decode cX0_init 46 = .ok (.putfield 34, 3) := by decide +kernel
theorem dX0_init_49 : decode cX0_init 49 = .ok (.aload_n 0, 1) := by decide +kernel
theorem dX0_init_50 : decode cX0_init 50 = .ok (.iload 5, 2) := by decide +kernel
theorem dX0_init_52 : decode cX0_init 52 = .ok (.putfield 37, 3) := by decide +kernel
theorem dX0_init_55 : decode cX0_init 55 = .ok (.aload_n 0, 1) := by decide +kernel
theorem dX0_init_56 : decode cX0_init 56 = .ok (.iconst 1, 1) := by decide +kernel
theorem dX0_init_57 : decode cX0_init 57 = .ok (.putfield 40, 3) := by decide +kernel
theorem dX0_init_60 : decode cX0_init 60 = .ok (.aload_n 0, 1) := by decide +kernel
theorem dX0_init_61 : decode cX0_init 61 = .ok (.lload 6, 2) := by decide +kernel
theorem dX0_init_63 : decode cX0_init 63 = .ok (.putfield 44, 3) := by decide +kernel
theorem dX0_init_66 : decode cX0_init 66 = .ok (.iconst 0, 1) := by decide +kernel
theorem dX0_init_67 : decode cX0_init 67 = .ok (.istore 8, 2) := by decide +kernel
theorem dX0_init_69 : decode cX0_init 69 = .ok (.iload 8, 2) := by decide +kernel
theorem dX0_init_71 : decode cX0_init 71 = .ok (.aload_n 0, 1) := by decide +kernel
theorem dX0_init_72 : decode cX0_init 72 = .ok (.getfield 15, 3) := by decide +kernel
theorem dX0_init_75 : decode cX0_init 75 = .ok (.arraylength, 1) := by decide +kernel
theorem dX0_init_76 : decode cX0_init 76 = .ok (.if_icmp .ge 23, 3) := by decide +kernel
theorem dX0_init_79 : decode cX0_init 79 = .ok (.aload_n 0, 1) := by decide +kernel
theorem dX0_init_80 : decode cX0_init 80 = .ok (.getfield 15, 3) := by decide +kernel
theorem dX0_init_83 : decode cX0_init 83 = .ok (.iload 8, 2) := by decide +kernel
theorem dX0_init_85 : decode cX0_init 85 = .ok (.bipush 60, 2) := by decide +kernel
theorem dX0_init_87 : decode cX0_init 87 = .ok (.iconst 2, 1) := by decide +kernel
theorem dX0_init_88 : decode cX0_init 88 = .ok (.iload 8, 2) := by decide +kernel
theorem dX0_init_90 : decode cX0_init 90 = .ok (.imul, 1) := by decide +kernel
theorem dX0_init_91 : decode cX0_init 91 = .ok (.iadd, 1) := by decide +kernel
theorem dX0_init_92 : decode cX0_init 92 = .ok (.iastore, 1) := by decide +kernel
theorem dX0_init_93 : decode cX0_init 93 = .ok (.iinc 8 1, 3) := by decide +kernel
theorem dX0_init_96 : decode cX0_init 96 = .ok (.goto (-27), 3) := by decide +kernel
theorem dX0_init_99 : decode cX0_init 99 = .ok (.iconst 0, 1) := by decide +kernel
theorem dX0_init_100 : decode cX0_init 100 = .ok (.istore 8, 2) := by decide +kernel
theorem dX0_init_102 : decode cX0_init 102 = .ok (.iload 8, 2) := by decide +kernel
theorem dX0_init_104 : decode cX0_init 104 = .ok (.aload_n 0, 1) := by decide +kernel
theorem dX0_init_105 : decode cX0_init 105 = .ok (.getfield 20, 3) := by decide +kernel
theorem dX0_init_108 : decode cX0_init 108 = .ok (.arraylength, 1) := by decide +kernel
theorem dX0_init_109 : decode cX0_init 109 = .ok (.if_icmp .ge 23, 3) := by decide +kernel
theorem dX0_init_112 : decode cX0_init 112 = .ok (.aload_n 0, 1) := by decide +kernel
theorem dX0_init_113 : decode cX0_init 113 = .ok (.getfield 20, 3) := by decide +kernel
theorem dX0_init_116 : decode cX0_init 116 = .ok (.iload 8, 2) := by decide +kernel
theorem dX0_init_118 : decode cX0_init 118 = .ok (.new 18, 3) := by decide +kernel
theorem dX0_init_121 : decode cX0_init 121 = .ok (.dup, 1) := by decide +kernel
theorem dX0_init_122 : decode cX0_init 122 = .ok (.invokespecial 48, 3) := by decide +kernel
theorem dX0_init_125 : decode cX0_init 125 = .ok (.aastore, 1) := by decide +kernel
theorem dX0_init_126 : decode cX0_init 126 = .ok (.iinc 8 1, 3) := by decide +kernel
theorem dX0_init_129 : decode cX0_init 129 = .ok (.goto (-27), 3) := by decide +kernel
theorem dX0_init_132 : decode cX0_init 132 = .ok (.return_, 1) := by decide +kernel
theorem dX0_remember_0 : decode cX0_remember 0 = .ok (.aload_n 0, 1) := by decide +kernel
theorem dX0_remember_1 : decode cX0_remember 1 = .ok (.aload_n 0, 1) := by decide +kernel
theorem dX0_remember_2 : decode cX0_remember 2 = .ok (.getfield 49, 3) := by decide +kernel
theorem dX0_remember_5 : decode cX0_remember 5 = .ok (.putfield 52, 3) := by decide +kernel
theorem dX0_remember_8 : decode cX0_remember 8 = .ok (.aload_n 0, 1) := by decide +kernel
theorem dX0_remember_9 : decode cX0_remember 9 = .ok (.aload_n 0, 1) := by decide +kernel
theorem dX0_remember_10 : decode cX0_remember 10 = .ok (.getfield 55, 3) := by decide +kernel
theorem dX0_remember_13 : decode cX0_remember 13 = .ok (.putfield 58, 3) := by decide +kernel
theorem dX0_remember_16 : decode cX0_remember 16 = .ok (.return_, 1) := by decide +kernel
theorem dX0_recall_0 : decode cX0_recall 0 = .ok (.aload_n 0, 1) := by decide +kernel
theorem dX0_recall_1 : decode cX0_recall 1 = .ok (.aload_n 0, 1) := by decide +kernel
theorem dX0_recall_2 : decode cX0_recall 2 = .ok (.getfield 52, 3) := by decide +kernel
theorem dX0_recall_5 : decode cX0_recall 5 = .ok (.putfield 49, 3) := by decide +kernel
theorem dX0_recall_8 : decode cX0_recall 8 = .ok (.aload_n 0, 1) := by decide +kernel
theorem dX0_recall_9 : decode cX0_recall 9 = .ok (.aload_n 0, 1) := by decide +kernel
theorem dX0_recall_10 : decode cX0_recall 10 = .ok (.getfield 58, 3) := by decide +kernel
theorem dX0_recall_13 : decode cX0_recall 13 = .ok (.putfield 55, 3) := by decide +kernel
theorem dX0_recall_16 : decode cX0_recall 16 = .ok (.return_, 1) := by decide +kernel
theorem dX0_isDrivenBy_0 : decode cX0_isDrivenBy 0 = .ok (.aload_n 0, 1) := by decide +kernel
theorem dX0_isDrivenBy_1 : decode cX0_isDrivenBy 1 = .ok (.getfield 40, 3) := by decide +kernel
theorem dX0_isDrivenBy_4 : decode cX0_isDrivenBy 4 = .ok (.ifCond .eq 15, 3) := by decide +kernel
theorem dX0_isDrivenBy_7 : decode cX0_isDrivenBy 7 = .ok (.aload_n 0, 1) := by decide +kernel
theorem dX0_isDrivenBy_8 : decode cX0_isDrivenBy 8 = .ok (.getfield 24, 3) := by decide +kernel
theorem dX0_isDrivenBy_11 : decode cX0_isDrivenBy 11 = .ok (.iload_n 1, 1) := by decide +kernel
theorem dX0_isDrivenBy_12 : decode cX0_isDrivenBy 12 = .ok (.if_icmp .ne 7, 3) := by decide +kernel
theorem dX0_isDrivenBy_15 : decode cX0_isDrivenBy 15 = .ok (.iconst 1, 1) := by decide +kernel
theorem dX0_isDrivenBy_16 : decode cX0_isDrivenBy 16 = .ok (.goto 4, 3) := by decide +kernel
theorem dX0_isDrivenBy_19 : decode cX0_isDrivenBy 19 = .ok (.iconst 0, 1) := by decide +kernel
theorem dX0_isDrivenBy_20 : decode cX0_isDrivenBy 20 = .ok (.ireturn, 1) := by decide +kernel
theorem dX0_startAnew_0 : decode cX0_startAnew 0 = .ok (.aload_n 0, 1) := by decide +kernel
theorem dX0_startAnew_1 : decode cX0_startAnew 1 = .ok (.lload_n 1, 1) := by decide +kernel
theorem dX0_startAnew_2 : decode cX0_startAnew 2 = .ok (.putfield 44, 3) := by decide +kernel
theorem dX0_startAnew_5 : decode cX0_startAnew 5 = .ok (.aload_n 0, 1) := by decide +kernel
theorem dX0_startAnew_6 : decode cX0_startAnew 6 = .ok (.lconst 0, 1) := by decide +kernel
theorem dX0_startAnew_7 : decode cX0_startAnew 7 = .ok (.putfield 49, 3) := by decide +kernel
theorem dX0_startAnew_10 : decode cX0_startAnew 10 = .ok (.return_, 1) := by decide +kernel
theorem dX0_goneWhen_0 : decode cX0_goneWhen 0 = .ok (.ldc2_w 61, 3) := by decide +kernel
theorem dX0_goneWhen_3 : decode cX0_goneWhen 3 = .ok (.aload_n 0, 1) := by decide +kernel
theorem dX0_goneWhen_4 : decode cX0_goneWhen 4 = .ok (.getfield 37, 3) := by decide +kernel
theorem dX0_goneWhen_7 : decode cX0_goneWhen 7 = .ok (.i2l, 1) := by decide +kernel
theorem dX0_goneWhen_8 : decode cX0_goneWhen 8 = .ok (.lmul, 1) := by decide +kernel
theorem dX0_goneWhen_9 : decode cX0_goneWhen 9 = .ok (.lstore_n 3, 1) := by decide +kernel
theorem dX0_goneWhen_10 : decode cX0_goneWhen 10 = .ok (.lload_n 3, 1) := by decide +kernel
theorem dX0_goneWhen_11 : decode cX0_goneWhen 11 = .ok (.lconst 0, 1) := by decide +kernel
theorem dX0_goneWhen_12 : decode cX0_goneWhen 12 = .ok (.lcmp, 1) := by decide +kernel
theorem dX0_goneWhen_13 : decode cX0_goneWhen 13 = .ok (.ifCond .le 26, 3) := by decide +kernel
theorem dX0_goneWhen_16 : decode cX0_goneWhen 16 = .ok (.lload_n 1, 1) := by decide +kernel
theorem dX0_goneWhen_17 : decode cX0_goneWhen 17 = .ok (.aload_n 0, 1) := by decide +kernel
theorem dX0_goneWhen_18 : decode cX0_goneWhen 18 = .ok (.getfield 44, 3) := by decide +kernel
theorem dX0_goneWhen_21 : decode cX0_goneWhen 21 = .ok (.lsub, 1) := by decide +kernel
theorem dX0_goneWhen_22 : decode cX0_goneWhen 22 = .ok (.aload_n 0, 1) := by decide +kernel
theorem dX0_goneWhen_23 : decode cX0_goneWhen 23 = .ok (.getfield 34, 3) := by decide +kernel
theorem dX0_goneWhen_26 : decode cX0_goneWhen 26 = .ok (.i2l, 1) := by decide +kernel
theorem dX0_goneWhen_27 : decode cX0_goneWhen 27 = .ok (.lmul, 1) := by decide +kernel
theorem dX0_goneWhen_28 : decode cX0_goneWhen 28 = .ok (.aload_n 0, 1) := by decide +kernel
theorem dX0_goneWhen_29 : decode cX0_goneWhen 29 = .ok (.getfield 31, 3) := by decide +kernel
theorem dX0_goneWhen_32 : decode cX0_goneWhen 32 = .ok (.i2l, 1) := by decide +kernel
theorem dX0_goneWhen_33 : decode cX0_goneWhen 33 = .ok (.lmul, 1) := by decide +kernel
theorem dX0_goneWhen_34 : decode cX0_goneWhen 34 = .ok (.lload_n 3, 1) := by decide +kernel
theorem dX0_goneWhen_35 : decode cX0_goneWhen 35 = .ok (.ldiv, 1) := by decide +kernel
theorem dX0_goneWhen_36 : decode cX0_goneWhen 36 = .ok (.goto 4, 3) := by decide +kernel
theorem dX0_goneWhen_39 : decode cX0_goneWhen 39 = .ok (.lconst 0, 1) := by decide +kernel
theorem dX0_goneWhen_40 : decode cX0_goneWhen 40 = .ok (.lreturn, 1) := by decide +kernel
theorem dX0_placeWhenGone_0 : decode cX0_placeWhenGone 0 = .ok (.aload_n 0, 1) := by decide +kernel
theorem dX0_placeWhenGone_1 : decode cX0_placeWhenGone 1 = .ok (.getfield 31, 3) := by decide +kernel
theorem dX0_placeWhenGone_4 : decode cX0_placeWhenGone 4 = .ok (.ifCond .le 14, 3) := by decide +kernel
theorem dX0_placeWhenGone_7 : decode cX0_placeWhenGone 7 = .ok (.lload_n 1, 1) := by decide +kernel
theorem dX0_placeWhenGone_8 : decode cX0_placeWhenGone 8 = .ok (.aload_n 0, 1) := by decide +kernel
theorem dX0_placeWhenGone_9 : decode cX0_placeWhenGone 9 = .ok (.getfield 31, 3) := by decide +kernel
theorem dX0_placeWhenGone_12 : decode cX0_placeWhenGone 12 = .ok (.i2l, 1) := by decide +kernel
theorem dX0_placeWhenGone_13 : decode cX0_placeWhenGone 13 = .ok (.lrem, 1) := by decide +kernel
theorem dX0_placeWhenGone_14 : decode cX0_placeWhenGone 14 = .ok (.l2i, 1) := by decide +kernel
theorem dX0_placeWhenGone_15 : decode cX0_placeWhenGone 15 = .ok (.goto 4, 3) := by decide +kernel
theorem dX0_placeWhenGone_18 : decode cX0_placeWhenGone 18 = .ok (.iconst 0, 1) := by decide +kernel
theorem dX0_placeWhenGone_19 : decode cX0_placeWhenGone 19 = .ok (.ireturn, 1) := by decide +kernel
theorem dX0_placeNow_0 : decode cX0_placeNow 0 = .ok (.aload_n 0, 1) := by decide +kernel
theorem dX0_placeNow_1 : decode cX0_placeNow 1 = .ok (.aload_n 0, 1) := by decide +kernel
theorem dX0_placeNow_2 : decode cX0_placeNow 2 = .ok (.getfield 49, 3) := by decide +kernel
theorem dX0_placeNow_5 : decode cX0_placeNow 5 = .ok (.invokevirtual 63, 3) := by decide +kernel
theorem dX0_placeNow_8 : decode cX0_placeNow 8 = .ok (.ireturn, 1) := by decide +kernel
theorem dX0_hasPlace_0 : decode cX0_hasPlace 0 = .ok (.iload_n 1, 1) := by decide +kernel
theorem dX0_hasPlace_1 : decode cX0_hasPlace 1 = .ok (.iconst 0, 1) := by decide +kernel
theorem dX0_hasPlace_2 : decode cX0_hasPlace 2 = .ok (.aload_n 0, 1) := by decide +kernel
theorem dX0_hasPlace_3 : decode cX0_hasPlace 3 = .ok (.getfield 31, 3) := by decide +kernel
theorem dX0_hasPlace_6 : decode cX0_hasPlace 6 = .ok (.iconst 1, 1) := by decide +kernel
theorem dX0_hasPlace_7 : decode cX0_hasPlace 7 = .ok (.isub, 1) := by decide +kernel
theorem dX0_hasPlace_8 : decode cX0_hasPlace 8 = .ok (.invokestatic 67, 3) := by decide +kernel
theorem dX0_hasPlace_11 : decode cX0_hasPlace 11 = .ok (.ireturn, 1) := by decide +kernel
theorem dX0_hasPin_0 : decode cX0_hasPin 0 = .ok (.aload_n 0, 1) := by decide +kernel
theorem dX0_hasPin_1 : decode cX0_hasPin 1 = .ok (.getfield 9, 3) := by decide +kernel
theorem dX0_hasPin_4 : decode cX0_hasPin 4 = .ok (.iload_n 1, 1) := by decide +kernel
theorem dX0_hasPin_5 : decode cX0_hasPin 5 = .ok (.invokestatic 71, 3) := by decide +kernel
theorem dX0_hasPin_8 : decode cX0_hasPin 8 = .ok (.iload_n 2, 1) := by decide +kernel
theorem dX0_hasPin_9 : decode cX0_hasPin 9 = .ok (.ishr, 1) := by decide +kernel
theorem dX0_hasPin_10 : decode cX0_hasPin 10 = .ok (.iconst 1, 1) := by decide +kernel
theorem dX0_hasPin_11 : decode cX0_hasPin 11 = .ok (.iand, 1) := by decide +kernel
theorem dX0_hasPin_12 : decode cX0_hasPin 12 = .ok (.iconst 1, 1) := by decide +kernel
theorem dX0_hasPin_13 : decode cX0_hasPin 13 = .ok (.if_icmp .ne 7, 3) := by decide +kernel
theorem dX0_hasPin_16 : decode cX0_hasPin 16 = .ok (.iconst 1, 1) := by decide +kernel
theorem dX0_hasPin_17 : decode cX0_hasPin 17 = .ok (.goto 4, 3) := by decide +kernel
theorem dX0_hasPin_20 : decode cX0_hasPin 20 = .ok (.iconst 0, 1) := by decide +kernel
theorem dX0_hasPin_21 : decode cX0_hasPin 21 = .ok (.ireturn, 1) := by decide +kernel
theorem dX0_turnPin_0 : decode cX0_turnPin 0 = .ok (.aload_n 0, 1) := by decide +kernel
theorem dX0_turnPin_1 : decode cX0_turnPin 1 = .ok (.dup, 1) := by decide +kernel
theorem dX0_turnPin_2 : decode cX0_turnPin 2 = .ok (.getfield 75, 3) := by decide +kernel
theorem dX0_turnPin_5 : decode cX0_turnPin 5 = .ok (.aload_n 0, 1) := by decide +kernel
theorem dX0_turnPin_6 : decode cX0_turnPin 6 = .ok (.iload_n 1, 1) := by decide +kernel
theorem dX0_turnPin_7 : decode cX0_turnPin 7 = .ok (.iload_n 2, 1) := by decide +kernel
theorem dX0_turnPin_8 : decode cX0_turnPin 8 = .ok (.invokevirtual 78, 3) := by decide +kernel
theorem dX0_turnPin_11 : decode cX0_turnPin 11 = .ok (.ifCond .eq 7, 3) := by decide +kernel
theorem dX0_turnPin_14 : decode cX0_turnPin 14 = .ok (.iconst (-1), 1) := by decide +kernel
theorem dX0_turnPin_15 : decode cX0_turnPin 15 = .ok (.goto 4, 3) := by decide +kernel
theorem dX0_turnPin_18 : decode cX0_turnPin 18 = .ok (.iconst 1, 1) := by decide +kernel
theorem dX0_turnPin_19 : decode cX0_turnPin 19 = .ok (.iadd, 1) := by decide +kernel
theorem dX0_turnPin_20 : decode cX0_turnPin 20 = .ok (.putfield 75, 3) := by decide +kernel
theorem dX0_turnPin_23 : decode cX0_turnPin 23 = .ok (.aload_n 0, 1) := by decide +kernel
theorem dX0_turnPin_24 : decode cX0_turnPin 24 = .ok (.getfield 9, 3) := by decide +kernel
theorem dX0_turnPin_27 : decode cX0_turnPin 27 = .ok (.iload_n 1, 1) := by decide +kernel
theorem dX0_turnPin_28 : decode cX0_turnPin 28 = .ok (.aload_n 0, 1) := by decide +kernel
theorem dX0_turnPin_29 : decode cX0_turnPin 29 = .ok (.getfield 9, 3) := by decide +kernel
theorem dX0_turnPin_32 : decode cX0_turnPin 32 = .ok (.iload_n 1, 1) := by decide +kernel
theorem dX0_turnPin_33 : decode cX0_turnPin 33 = .ok (.invokestatic 71, 3) := by decide +kernel
theorem dX0_turnPin_36 : decode cX0_turnPin 36 = .ok (.iconst 1, 1) := by decide +kernel
theorem dX0_turnPin_37 : decode cX0_turnPin 37 = .ok (.iload_n 2, 1) := by decide +kernel
theorem dX0_turnPin_38 : decode cX0_turnPin 38 = .ok (.ishl, 1) := by decide +kernel
theorem dX0_turnPin_39 : decode cX0_turnPin 39 = .ok (.ixor, 1) := by decide +kernel
theorem dX0_turnPin_40 : decode cX0_turnPin 40 = .ok (.invokestatic 82, 3) := by decide +kernel
theorem dX0_turnPin_43 : decode cX0_turnPin 43 = .ok (.return_, 1) := by decide +kernel
theorem dX0_camAt_0 : decode cX0_camAt 0 = .ok (.iload_n 1, 1) := by decide +kernel
theorem dX0_camAt_1 : decode cX0_camAt 1 = .ok (.ifCond .lt 21, 3) := by decide +kernel
theorem dX0_camAt_4 : decode cX0_camAt 4 = .ok (.iload_n 1, 1) := by decide +kernel
theorem dX0_camAt_5 : decode cX0_camAt 5 = .ok (.aload_n 0, 1) := by decide +kernel
theorem dX0_camAt_6 : decode cX0_camAt 6 = .ok (.getfield 20, 3) := by decide +kernel
theorem dX0_camAt_9 : decode cX0_camAt 9 = .ok (.arraylength, 1) := by decide +kernel
theorem dX0_camAt_10 : decode cX0_camAt 10 = .ok (.if_icmp .ge 12, 3) := by decide +kernel
theorem dX0_camAt_13 : decode cX0_camAt 13 = .ok (.aload_n 0, 1) := by decide +kernel
theorem dX0_camAt_14 : decode cX0_camAt 14 = .ok (.getfield 20, 3) := by decide +kernel
theorem dX0_camAt_17 : decode cX0_camAt 17 = .ok (.iload_n 1, 1) := by decide +kernel
theorem dX0_camAt_18 : decode cX0_camAt 18 = .ok (.aaload, 1) := by decide +kernel
theorem dX0_camAt_19 : decode cX0_camAt 19 = .ok (.goto 4, 3) := by decide +kernel
theorem dX0_camAt_22 : decode cX0_camAt 22 = .ok (.aconst_null, 1) := by decide +kernel
theorem dX0_camAt_23 : decode cX0_camAt 23 = .ok (.areturn, 1) := by decide +kernel
theorem dX0_burden_0 : decode cX0_burden 0 = .ok (.aload_n 0, 1) := by decide +kernel
theorem dX0_burden_1 : decode cX0_burden 1 = .ok (.invokevirtual 86, 3) := by decide +kernel
theorem dX0_burden_4 : decode cX0_burden 4 = .ok (.istore_n 1, 1) := by decide +kernel
theorem dX0_burden_5 : decode cX0_burden 5 = .ok (.iconst 0, 1) := by decide +kernel
theorem dX0_burden_6 : decode cX0_burden 6 = .ok (.istore_n 2, 1) := by decide +kernel
theorem dX0_burden_7 : decode cX0_burden 7 = .ok (.aload_n 0, 1) := by decide +kernel
theorem dX0_burden_8 : decode cX0_burden 8 = .ok (.getfield 20, 3) := by decide +kernel
theorem dX0_burden_11 : decode cX0_burden 11 = .ok (.astore_n 3, 1) := by decide +kernel
theorem dX0_burden_12 : decode cX0_burden 12 = .ok (.aload_n 3, 1) := by decide +kernel
theorem dX0_burden_13 : decode cX0_burden 13 = .ok (.arraylength, 1) := by decide +kernel
theorem dX0_burden_14 : decode cX0_burden 14 = .ok (.istore 4, 2) := by decide +kernel
theorem dX0_burden_16 : decode cX0_burden 16 = .ok (.iconst 0, 1) := by decide +kernel
theorem dX0_burden_17 : decode cX0_burden 17 = .ok (.istore 5, 2) := by decide +kernel
theorem dX0_burden_19 : decode cX0_burden 19 = .ok (.iload 5, 2) := by decide +kernel
theorem dX0_burden_21 : decode cX0_burden 21 = .ok (.iload 4, 2) := by decide +kernel
theorem dX0_burden_23 : decode cX0_burden 23 = .ok (.if_icmp .ge 32, 3) := by decide +kernel
theorem dX0_burden_26 : decode cX0_burden 26 = .ok (.aload_n 3, 1) := by decide +kernel
theorem dX0_burden_27 : decode cX0_burden 27 = .ok (.iload 5, 2) := by decide +kernel
theorem dX0_burden_29 : decode cX0_burden 29 = .ok (.aaload, 1) := by decide +kernel
theorem dX0_burden_30 : decode cX0_burden 30 = .ok (.astore 6, 2) := by decide +kernel
theorem dX0_burden_32 : decode cX0_burden 32 = .ok (.aload 6, 2) := by decide +kernel
theorem dX0_burden_34 : decode cX0_burden 34 = .ok (.ifnull 15, 3) := by decide +kernel
theorem dX0_burden_37 : decode cX0_burden 37 = .ok (.iload_n 2, 1) := by decide +kernel
theorem dX0_burden_38 : decode cX0_burden 38 = .ok (.aload 6, 2) := by decide +kernel
theorem dX0_burden_40 : decode cX0_burden 40 = .ok (.getfield 90, 3) := by decide +kernel
theorem dX0_burden_43 : decode cX0_burden 43 = .ok (.iload_n 1, 1) := by decide +kernel
theorem dX0_burden_44 : decode cX0_burden 44 = .ok (.invokestatic 71, 3) := by decide +kernel
theorem dX0_burden_47 : decode cX0_burden 47 = .ok (.iadd, 1) := by decide +kernel
theorem dX0_burden_48 : decode cX0_burden 48 = .ok (.istore_n 2, 1) := by decide +kernel
theorem dX0_burden_49 : decode cX0_burden 49 = .ok (.iinc 5 1, 3) := by decide +kernel
theorem dX0_burden_52 : decode cX0_burden 52 = .ok (.goto (-33), 3) := by decide +kernel
theorem dX0_burden_55 : decode cX0_burden 55 = .ok (.aload_n 0, 1) := by decide +kernel
theorem dX0_burden_56 : decode cX0_burden 56 = .ok (.getfield 28, 3) := by decide +kernel
theorem dX0_burden_59 : decode cX0_burden 59 = .ok (.iload_n 2, 1) := by decide +kernel
theorem dX0_burden_60 : decode cX0_burden 60 = .ok (.iconst 5, 1) := by decide +kernel
theorem dX0_burden_61 : decode cX0_burden 61 = .ok (.idiv, 1) := by decide +kernel
theorem dX0_burden_62 : decode cX0_burden 62 = .ok (.iadd, 1) := by decide +kernel
theorem dX0_burden_63 : decode cX0_burden 63 = .ok (.ireturn, 1) := by decide +kernel
theorem dX1_init_0 : decode cX1_init 0 = .ok (.aload_n 0, 1) := by decide +kernel
theorem dX1_init_1 : decode cX1_init 1 = .ok (.invokespecial 3, 3) := by decide +kernel
theorem dX1_init_4 : decode cX1_init 4 = .ok (.aload_n 0, 1) := by decide +kernel
theorem dX1_init_5 : decode cX1_init 5 = .ok (.bipush 96, 2) := by decide +kernel
theorem dX1_init_7 : decode cX1_init 7 = .ok (.newarray .int, 2) := by decide +kernel
theorem dX1_init_9 : decode cX1_init 9 = .ok (.putfield 9, 3) := by decide +kernel
theorem dX1_init_12 : decode cX1_init 12 = .ok (.aload_n 0, 1) := by decide +kernel
theorem dX1_init_13 : decode cX1_init 13 = .ok (.bipush 96, 2) := by decide +kernel
theorem dX1_init_15 : decode cX1_init 15 = .ok (.newarray .int, 2) := by decide +kernel
theorem dX1_init_17 : decode cX1_init 17 = .ok (.putfield 15, 3) := by decide +kernel
theorem dX1_init_20 : decode cX1_init 20 = .ok (.return_, 1) := by decide +kernel
theorem dX1_hasPoint_0 : decode cX1_hasPoint 0 = .ok (.aload_n 0, 1) := by decide +kernel
theorem dX1_hasPoint_1 : decode cX1_hasPoint 1 = .ok (.getfield 9, 3) := by decide +kernel
theorem dX1_hasPoint_4 : decode cX1_hasPoint 4 = .ok (.iload_n 1, 1) := by decide +kernel
theorem dX1_hasPoint_5 : decode cX1_hasPoint 5 = .ok (.invokestatic 18, 3) := by decide +kernel
theorem dX1_hasPoint_8 : decode cX1_hasPoint 8 = .ok (.iconst 1, 1) := by decide +kernel
theorem dX1_hasPoint_9 : decode cX1_hasPoint 9 = .ok (.if_icmp .ne 7, 3) := by decide +kernel
theorem dX1_hasPoint_12 : decode cX1_hasPoint 12 = .ok (.iconst 1, 1) := by decide +kernel
theorem dX1_hasPoint_13 : decode cX1_hasPoint 13 = .ok (.goto 4, 3) := by decide +kernel
theorem dX1_hasPoint_16 : decode cX1_hasPoint 16 = .ok (.iconst 0, 1) := by decide +kernel
theorem dX1_hasPoint_17 : decode cX1_hasPoint 17 = .ok (.ireturn, 1) := by decide +kernel
theorem dX1_layPoint_0 : decode cX1_layPoint 0 = .ok (.aload_n 0, 1) := by decide +kernel
theorem dX1_layPoint_1 : decode cX1_layPoint 1 = .ok (.iload_n 1, 1) := by decide +kernel
theorem dX1_layPoint_2 : decode cX1_layPoint 2 = .ok (.invokevirtual 22, 3) := by decide +kernel
theorem dX1_layPoint_5 : decode cX1_layPoint 5 = .ok (.ifCond .ne 13, 3) := by decide +kernel
theorem dX1_layPoint_8 : decode cX1_layPoint 8 = .ok (.aload_n 0, 1) := by decide +kernel
theorem dX1_layPoint_9 : decode cX1_layPoint 9 = .ok (.dup, 1) := by decide +kernel
theorem dX1_layPoint_10 : decode cX1_layPoint 10 = .ok (.getfield 26, 3) := by decide +kernel
theorem dX1_layPoint_13 : decode cX1_layPoint 13 = .ok (.iconst 1, 1) := by decide +kernel
theorem dX1_layPoint_14 : decode cX1_layPoint 14 = .ok (.iadd, 1) := by decide +kernel
theorem dX1_layPoint_15 : decode cX1_layPoint 15 = .ok (.putfield 26, 3) := by decide +kernel
theorem dX1_layPoint_18 : decode cX1_layPoint 18 = .ok (.aload_n 0, 1) := by decide +kernel
theorem dX1_layPoint_19 : decode cX1_layPoint 19 = .ok (.getfield 9, 3) := by decide +kernel
theorem dX1_layPoint_22 : decode cX1_layPoint 22 = .ok (.iload_n 1, 1) := by decide +kernel
theorem dX1_layPoint_23 : decode cX1_layPoint 23 = .ok (.iconst 1, 1) := by decide +kernel
theorem dX1_layPoint_24 : decode cX1_layPoint 24 = .ok (.invokestatic 30, 3) := by decide +kernel
theorem dX1_layPoint_27 : decode cX1_layPoint 27 = .ok (.aload_n 0, 1) := by decide +kernel
theorem dX1_layPoint_28 : decode cX1_layPoint 28 = .ok (.getfield 15, 3) := by decide +kernel
theorem dX1_layPoint_31 : decode cX1_layPoint 31 = .ok (.iload_n 1, 1) := by decide +kernel
theorem dX1_layPoint_32 : decode cX1_layPoint 32 = .ok (.iload_n 2, 1) := by decide +kernel
theorem dX1_layPoint_33 : decode cX1_layPoint 33 = .ok (.invokestatic 30, 3) := by decide +kernel
theorem dX1_layPoint_36 : decode cX1_layPoint 36 = .ok (.aload_n 0, 1) := by decide +kernel
theorem dX1_layPoint_37 : decode cX1_layPoint 37 = .ok (.iload_n 3, 1) := by decide +kernel
theorem dX1_layPoint_38 : decode cX1_layPoint 38 = .ok (.invokevirtual 34, 3) := by decide +kernel
theorem dX1_layPoint_41 : decode cX1_layPoint 41 = .ok (.return_, 1) := by decide +kernel
theorem dX1_takePoint_0 : decode cX1_takePoint 0 = .ok (.aload_n 0, 1) := by decide +kernel
theorem dX1_takePoint_1 : decode cX1_takePoint 1 = .ok (.iload_n 1, 1) := by decide +kernel
theorem dX1_takePoint_2 : decode cX1_takePoint 2 = .ok (.invokevirtual 22, 3) := by decide +kernel
theorem dX1_takePoint_5 : decode cX1_takePoint 5 = .ok (.ifCond .eq 13, 3) := by decide +kernel
theorem dX1_takePoint_8 : decode cX1_takePoint 8 = .ok (.aload_n 0, 1) := by decide +kernel
theorem dX1_takePoint_9 : decode cX1_takePoint 9 = .ok (.dup, 1) := by decide +kernel
theorem dX1_takePoint_10 : decode cX1_takePoint 10 = .ok (.getfield 26, 3) := by decide +kernel
theorem dX1_takePoint_13 : decode cX1_takePoint 13 = .ok (.iconst 1, 1) := by decide +kernel
theorem dX1_takePoint_14 : decode cX1_takePoint 14 = .ok (.isub, 1) := by decide +kernel
theorem dX1_takePoint_15 : decode cX1_takePoint 15 = .ok (.putfield 26, 3) := by decide +kernel
theorem dX1_takePoint_18 : decode cX1_takePoint 18 = .ok (.aload_n 0, 1) := by decide +kernel
theorem dX1_takePoint_19 : decode cX1_takePoint 19 = .ok (.getfield 9, 3) := by decide +kernel
theorem dX1_takePoint_22 : decode cX1_takePoint 22 = .ok (.iload_n 1, 1) := by decide +kernel
theorem dX1_takePoint_23 : decode cX1_takePoint 23 = .ok (.iconst 0, 1) := by decide +kernel
theorem dX1_takePoint_24 : decode cX1_takePoint 24 = .ok (.invokestatic 30, 3) := by decide +kernel
theorem dX1_takePoint_27 : decode cX1_takePoint 27 = .ok (.aload_n 0, 1) := by decide +kernel
theorem dX1_takePoint_28 : decode cX1_takePoint 28 = .ok (.iload_n 2, 1) := by decide +kernel
theorem dX1_takePoint_29 : decode cX1_takePoint 29 = .ok (.invokevirtual 34, 3) := by decide +kernel
theorem dX1_takePoint_32 : decode cX1_takePoint 32 = .ok (.return_, 1) := by decide +kernel
theorem dX1_draw_0 : decode cX1_draw 0 = .ok (.iconst 0, 1) := by decide +kernel
theorem dX1_draw_1 : decode cX1_draw 1 = .ok (.istore_n 2, 1) := by decide +kernel
theorem dX1_draw_2 : decode cX1_draw 2 = .ok (.iload_n 2, 1) := by decide +kernel
theorem dX1_draw_3 : decode cX1_draw 3 = .ok (.iload_n 1, 1) := by decide +kernel
theorem dX1_draw_4 : decode cX1_draw 4 = .ok (.if_icmp .ge 42, 3) := by decide +kernel
theorem dX1_draw_7 : decode cX1_draw 7 = .ok (.aload_n 0, 1) := by decide +kernel
theorem dX1_draw_8 : decode cX1_draw 8 = .ok (.iload_n 2, 1) := by decide +kernel
theorem dX1_draw_9 : decode cX1_draw 9 = .ok (.invokevirtual 22, 3) := by decide +kernel
theorem dX1_draw_12 : decode cX1_draw 12 = .ok (.ifCond .eq 12, 3) := by decide +kernel
theorem dX1_draw_15 : decode cX1_draw 15 = .ok (.aload_n 0, 1) := by decide +kernel
theorem dX1_draw_16 : decode cX1_draw 16 = .ok (.iload_n 2, 1) := by decide +kernel
theorem dX1_draw_17 : decode cX1_draw 17 = .ok (.iload_n 1, 1) := by decide +kernel
theorem dX1_draw_18 : decode cX1_draw 18 = .ok (.invokevirtual 38, 3) := by decide +kernel
theorem dX1_draw_21 : decode cX1_draw 21 = .ok (.goto 19, 3) := by decide +kernel
theorem dX1_draw_24 : decode cX1_draw 24 = .ok (.aload_n 0, 1) := by decide +kernel
theorem dX1_draw_25 : decode cX1_draw 25 = .ok (.getfield 26, 3) := by decide +kernel
theorem dX1_draw_28 : decode cX1_draw 28 = .ok (.ifCond .ne 12, 3) := by decide +kernel
theorem dX1_draw_31 : decode cX1_draw 31 = .ok (.aload_n 0, 1) := by decide +kernel
theorem dX1_draw_32 : decode cX1_draw 32 = .ok (.getfield 15, 3) := by decide +kernel
theorem dX1_draw_35 : decode cX1_draw 35 = .ok (.iload_n 2, 1) := by decide +kernel
theorem dX1_draw_36 : decode cX1_draw 36 = .ok (.iconst 0, 1) := by decide +kernel
theorem dX1_draw_37 : decode cX1_draw 37 = .ok (.invokestatic 30, 3) := by decide +kernel
theorem dX1_draw_40 : decode cX1_draw 40 = .ok (.iinc 2 1, 3) := by decide +kernel
theorem dX1_draw_43 : decode cX1_draw 43 = .ok (.goto (-41), 3) := by decide +kernel
theorem dX1_draw_46 : decode cX1_draw 46 = .ok (.return_, 1) := by decide +kernel
theorem dX1_drawBehind_0 : decode cX1_drawBehind 0 = .ok (.iconst 1, 1) := by decide +kernel
theorem dX1_drawBehind_1 : decode cX1_drawBehind 1 = .ok (.istore_n 3, 1) := by decide +kernel
theorem dX1_drawBehind_2 : decode cX1_drawBehind 2 = .ok (.iload_n 3, 1) := by decide +kernel
theorem dX1_drawBehind_3 : decode cX1_drawBehind 3 = .ok (.iload_n 2, 1) := by decide +kernel
theorem dX1_drawBehind_4 : decode cX1_drawBehind 4 = .ok (.if_icmp .ge 23, 3) := by decide +kernel
theorem dX1_drawBehind_7 : decode cX1_drawBehind 7 = .ok (.aload_n 0, 1) := by decide +kernel
theorem dX1_drawBehind_8 : decode cX1_drawBehind 8 = .ok (.iload_n 1, 1) := by decide +kernel
theorem dX1_drawBehind_9 : decode cX1_drawBehind 9 = .ok (.iload_n 3, 1) := by decide +kernel
theorem dX1_drawBehind_10 : decode cX1_drawBehind 10 = .ok (.iadd, 1) := by decide +kernel
theorem dX1_drawBehind_11 : decode cX1_drawBehind 11 = .ok (.iload_n 2, 1) := by decide +kernel
theorem dX1_drawBehind_12 : decode cX1_drawBehind 12 = .ok (.invokestatic 42, 3) := by decide +kernel
theorem dX1_drawBehind_15 : decode cX1_drawBehind 15 = .ok (.invokevirtual 22, 3) := by decide +kernel
theorem dX1_drawBehind_18 : decode cX1_drawBehind 18 = .ok (.ifCond .ne 9, 3) := by decide +kernel
theorem dX1_drawBehind_21 : decode cX1_drawBehind 21 = .ok (.iinc 3 1, 3) := by decide +kernel
theorem dX1_drawBehind_24 : decode cX1_drawBehind 24 = .ok (.goto (-22), 3) := by decide +kernel
theorem dX1_drawBehind_27 : decode cX1_drawBehind 27 = .ok (.aload_n 0, 1) := by decide +kernel
theorem dX1_drawBehind_28 : decode cX1_drawBehind 28 = .ok (.getfield 15, 3) := by decide +kernel
theorem dX1_drawBehind_31 : decode cX1_drawBehind 31 = .ok (.iload_n 1, 1) := by decide +kernel
theorem dX1_drawBehind_32 : decode cX1_drawBehind 32 = .ok (.invokestatic 18, 3) := by decide +kernel
theorem dX1_drawBehind_35 : decode cX1_drawBehind 35 = .ok (.istore 4, 2) := by decide +kernel
theorem dX1_drawBehind_37 : decode cX1_drawBehind 37 = .ok (.aload_n 0, 1) := by decide +kernel
theorem dX1_drawBehind_38 : decode cX1_drawBehind 38 = .ok (.getfield 15, 3) := by decide +kernel
theorem dX1_drawBehind_41 : decode cX1_drawBehind 41 = .ok (.iload_n 1, 1) := by decide +kernel
theorem dX1_drawBehind_42 : decode cX1_drawBehind 42 = .ok (.iload_n 3, 1) := by decide +kernel
theorem dX1_drawBehind_43 : decode cX1_drawBehind 43 = .ok (.iadd, 1) := by decide +kernel
theorem dX1_drawBehind_44 : decode cX1_drawBehind 44 = .ok (.iload_n 2, 1) := by decide +kernel
theorem dX1_drawBehind_45 : decode cX1_drawBehind 45 = .ok (.invokestatic 42, 3) := by decide +kernel
theorem dX1_drawBehind_48 : decode cX1_drawBehind 48 = .ok (.invokestatic 18, 3) := by decide +kernel
theorem dX1_drawBehind_51 : decode cX1_drawBehind 51 = .ok (.iload 4, 2) := by decide +kernel
theorem dX1_drawBehind_53 : decode cX1_drawBehind 53 = .ok (.isub, 1) := by decide +kernel
theorem dX1_drawBehind_54 : decode cX1_drawBehind 54 = .ok (.istore 5, 2) := by decide +kernel
theorem dX1_drawBehind_56 : decode cX1_drawBehind 56 = .ok (.iconst 1, 1) := by decide +kernel
theorem dX1_drawBehind_57 : decode cX1_drawBehind 57 = .ok (.istore 6, 2) := by decide +kernel
theorem dX1_drawBehind_59 : decode cX1_drawBehind 59 = .ok (.iload 6, 2) := by decide +kernel
theorem dX1_drawBehind_61 : decode cX1_drawBehind 61 = .ok (.iload_n 3, 1) := by decide +kernel
theorem dX1_drawBehind_62 : decode cX1_drawBehind 62 = .ok (.if_icmp .ge 36, 3) := by decide +kernel
theorem dX1_drawBehind_65 : decode cX1_drawBehind 65 = .ok (.aload_n 0, 1) := by decide +kernel
theorem dX1_drawBehind_66 : decode cX1_drawBehind 66 = .ok (.getfield 15, 3) := by decide +kernel
theorem dX1_drawBehind_69 : decode cX1_drawBehind 69 = .ok (.iload_n 1, 1) := by decide +kernel
theorem dX1_drawBehind_70 : decode cX1_drawBehind 70 = .ok (.iload 6, 2) := by decide +kernel
theorem dX1_drawBehind_72 : decode cX1_drawBehind 72 = .ok (.iadd, 1) := by decide +kernel
theorem dX1_drawBehind_73 : decode cX1_drawBehind 73 = .ok (.iload_n 2, 1) := by decide +kernel
theorem dX1_drawBehind_74 : decode cX1_drawBehind 74 = .ok (.invokestatic 42, 3) := by decide +kernel
theorem dX1_drawBehind_77 : decode cX1_drawBehind 77 = .ok (.iload 4, 2) := by decide +kernel
theorem dX1_drawBehind_79 : decode cX1_drawBehind 79 = .ok (.iload 5, 2) := by decide +kernel
theorem dX1_drawBehind_81 : decode cX1_drawBehind 81 = .ok (.iload 6, 2) := by decide +kernel
theorem dX1_drawBehind_83 : decode cX1_drawBehind 83 = .ok (.imul, 1) := by decide +kernel
theorem dX1_drawBehind_84 : decode cX1_drawBehind 84 = .ok (.iload_n 3, 1) := by decide +kernel
theorem dX1_drawBehind_85 : decode cX1_drawBehind 85 = .ok (.invokestatic 46, 3) := by decide +kernel
theorem dX1_drawBehind_88 : decode cX1_drawBehind 88 = .ok (.iadd, 1) := by decide +kernel
theorem dX1_drawBehind_89 : decode cX1_drawBehind 89 = .ok (.invokestatic 30, 3) := by decide +kernel
theorem dX1_drawBehind_92 : decode cX1_drawBehind 92 = .ok (.iinc 6 1, 3) := by decide +kernel
theorem dX1_drawBehind_95 : decode cX1_drawBehind 95 = .ok (.goto (-36), 3) := by decide +kernel
theorem dX1_drawBehind_98 : decode cX1_drawBehind 98 = .ok (.return_, 1) := by decide +kernel
theorem dX2_init_0 : decode cX2_init 0 = .ok (.aload_n 0, 1) := by decide +kernel
theorem dX2_init_1 : decode cX2_init 1 = .ok (.invokespecial 3, 3) := by decide +kernel
theorem dX2_init_4 : decode cX2_init 4 = .ok (.aload_n 0, 1) := by decide +kernel
theorem dX2_init_5 : decode cX2_init 5 = .ok (.sipush 1000, 3) := by decide +kernel
theorem dX2_init_8 : decode cX2_init 8 = .ok (.newarray .int, 2) := by decide +kernel
theorem dX2_init_10 : decode cX2_init 10 = .ok (.putfield 9, 3) := by decide +kernel
theorem dX2_init_13 : decode cX2_init 13 = .ok (.return_, 1) := by decide +kernel
theorem dX2_remember_0 : decode cX2_remember 0 = .ok (.aload_n 0, 1) := by decide +kernel
theorem dX2_remember_1 : decode cX2_remember 1 = .ok (.aload_n 0, 1) := by decide +kernel
theorem dX2_remember_2 : decode cX2_remember 2 = .ok (.getfield 15, 3) := by decide +kernel
theorem dX2_remember_5 : decode cX2_remember 5 = .ok (.putfield 19, 3) := by decide +kernel
theorem dX2_remember_8 : decode cX2_remember 8 = .ok (.aload_n 0, 1) := by decide +kernel
theorem dX2_remember_9 : decode cX2_remember 9 = .ok (.aload_n 0, 1) := by decide +kernel
theorem dX2_remember_10 : decode cX2_remember 10 = .ok (.getfield 22, 3) := by decide +kernel
theorem dX2_remember_13 : decode cX2_remember 13 = .ok (.putfield 25, 3) := by decide +kernel
theorem dX2_remember_16 : decode cX2_remember 16 = .ok (.return_, 1) := by decide +kernel
theorem dX2_recall_0 : decode cX2_recall 0 = .ok (.aload_n 0, 1) := by decide +kernel
theorem dX2_recall_1 : decode cX2_recall 1 = .ok (.aload_n 0, 1) := by decide +kernel
theorem dX2_recall_2 : decode cX2_recall 2 = .ok (.getfield 19, 3) := by decide +kernel
theorem dX2_recall_5 : decode cX2_recall 5 = .ok (.putfield 15, 3) := by decide +kernel
theorem dX2_recall_8 : decode cX2_recall 8 = .ok (.aload_n 0, 1) := by decide +kernel
theorem dX2_recall_9 : decode cX2_recall 9 = .ok (.aload_n 0, 1) := by decide +kernel
theorem dX2_recall_10 : decode cX2_recall 10 = .ok (.getfield 25, 3) := by decide +kernel
theorem dX2_recall_13 : decode cX2_recall 13 = .ok (.putfield 22, 3) := by decide +kernel
theorem dX2_recall_16 : decode cX2_recall 16 = .ok (.return_, 1) := by decide +kernel
theorem dX2_hear_0 : decode cX2_hear 0 = .ok (.aload_n 0, 1) := by decide +kernel
theorem dX2_hear_1 : decode cX2_hear 1 = .ok (.dup, 1) := by decide +kernel
theorem dX2_hear_2 : decode cX2_hear 2 = .ok (.getfield 22, 3) := by decide +kernel
theorem dX2_hear_5 : decode cX2_hear 5 = .ok (.iconst 1, 1) := by decide +kernel
theorem dX2_hear_6 : decode cX2_hear 6 = .ok (.iadd, 1) := by decide +kernel
theorem dX2_hear_7 : decode cX2_hear 7 = .ok (.putfield 22, 3) := by decide +kernel
theorem dX2_hear_10 : decode cX2_hear 10 = .ok (.aload_n 0, 1) := by decide +kernel
theorem dX2_hear_11 : decode cX2_hear 11 = .ok (.getfield 15, 3) := by decide +kernel
theorem dX2_hear_14 : decode cX2_hear 14 = .ok (.sipush 250, 3) := by decide +kernel
theorem dX2_hear_17 : decode cX2_hear 17 = .ok (.if_icmp .ge 68, 3) := by decide +kernel
theorem dX2_hear_20 : decode cX2_hear 20 = .ok (.aload_n 0, 1) := by decide +kernel
theorem dX2_hear_21 : decode cX2_hear 21 = .ok (.getfield 15, 3) := by decide +kernel
theorem dX2_hear_24 : decode cX2_hear 24 = .ok (.iconst 4, 1) := by decide +kernel
theorem dX2_hear_25 : decode cX2_hear 25 = .ok (.imul, 1) := by decide +kernel
theorem dX2_hear_26 : decode cX2_hear 26 = .ok (.istore 5, 2) := by decide +kernel
theorem dX2_hear_28 : decode cX2_hear 28 = .ok (.aload_n 0, 1) := by decide +kernel
theorem dX2_hear_29 : decode cX2_hear 29 = .ok (.getfield 9, 3) := by decide +kernel
theorem dX2_hear_32 : decode cX2_hear 32 = .ok (.iload 5, 2) := by decide +kernel
theorem dX2_hear_34 : decode cX2_hear 34 = .ok (.iload_n 1, 1) := by decide +kernel
theorem dX2_hear_35 : decode cX2_hear 35 = .ok (.invokestatic 28, 3) := by decide +kernel
theorem dX2_hear_38 : decode cX2_hear 38 = .ok (.aload_n 0, 1) := by decide +kernel
theorem dX2_hear_39 : decode cX2_hear 39 = .ok (.getfield 9, 3) := by decide +kernel
theorem dX2_hear_42 : decode cX2_hear 42 = .ok (.iload 5, 2) := by decide +kernel
theorem dX2_hear_44 : decode cX2_hear 44 = .ok (.iconst 1, 1) := by decide +kernel
theorem dX2_hear_45 : decode cX2_hear 45 = .ok (.iadd, 1) := by decide +kernel
theorem dX2_hear_46 : decode cX2_hear 46 = .ok (.iload_n 2, 1) := by decide +kernel
theorem dX2_hear_47 : decode cX2_hear 47 = .ok (.invokestatic 28, 3) := by decide +kernel
theorem dX2_hear_50 : decode cX2_hear 50 = .ok (.aload_n 0, 1) := by decide +kernel
theorem dX2_hear_51 : decode cX2_hear 51 = .ok (.getfield 9, 3) := by decide +kernel
theorem dX2_hear_54 : decode cX2_hear 54 = .ok (.iload 5, 2) := by decide +kernel
theorem dX2_hear_56 : decode cX2_hear 56 = .ok (.iconst 2, 1) := by decide +kernel
theorem dX2_hear_57 : decode cX2_hear 57 = .ok (.iadd, 1) := by decide +kernel
theorem dX2_hear_58 : decode cX2_hear 58 = .ok (.iload_n 3, 1) := by decide +kernel
theorem dX2_hear_59 : decode cX2_hear 59 = .ok (.invokestatic 28, 3) := by decide +kernel
theorem dX2_hear_62 : decode cX2_hear 62 = .ok (.aload_n 0, 1) := by decide +kernel
theorem dX2_hear_63 : decode cX2_hear 63 = .ok (.getfield 9, 3) := by decide +kernel
theorem dX2_hear_66 : decode cX2_hear 66 = .ok (.iload 5, 2) := by decide +kernel
theorem dX2_hear_68 : decode cX2_hear 68 = .ok (.iconst 3, 1) := by decide +kernel
theorem dX2_hear_69 : decode cX2_hear 69 = .ok (.iadd, 1) := by decide +kernel
theorem dX2_hear_70 : decode cX2_hear 70 = .ok (.iload 4, 2) := by decide +kernel
theorem dX2_hear_72 : decode cX2_hear 72 = .ok (.invokestatic 28, 3) := by decide +kernel
theorem dX2_hear_75 : decode cX2_hear 75 = .ok (.aload_n 0, 1) := by decide +kernel
theorem dX2_hear_76 : decode cX2_hear 76 = .ok (.dup, 1) := by decide +kernel
theorem dX2_hear_77 : decode cX2_hear 77 = .ok (.getfield 15, 3) := by decide +kernel
theorem dX2_hear_80 : decode cX2_hear 80 = .ok (.iconst 1, 1) := by decide +kernel
theorem dX2_hear_81 : decode cX2_hear 81 = .ok (.iadd, 1) := by decide +kernel
theorem dX2_hear_82 : decode cX2_hear 82 = .ok (.putfield 15, 3) := by decide +kernel
theorem dX2_hear_85 : decode cX2_hear 85 = .ok (.return_, 1) := by decide +kernel
theorem dX2_told_0 : decode cX2_told 0 = .ok (.aload_n 0, 1) := by decide +kernel
theorem dX2_told_1 : decode cX2_told 1 = .ok (.getfield 9, 3) := by decide +kernel
theorem dX2_told_4 : decode cX2_told 4 = .ok (.iload_n 1, 1) := by decide +kernel
theorem dX2_told_5 : decode cX2_told 5 = .ok (.iconst 4, 1) := by decide +kernel
theorem dX2_told_6 : decode cX2_told 6 = .ok (.imul, 1) := by decide +kernel
theorem dX2_told_7 : decode cX2_told 7 = .ok (.iload_n 2, 1) := by decide +kernel
theorem dX2_told_8 : decode cX2_told 8 = .ok (.iadd, 1) := by decide +kernel
theorem dX2_told_9 : decode cX2_told 9 = .ok (.invokestatic 32, 3) := by decide +kernel
theorem dX2_told_12 : decode cX2_told 12 = .ok (.ireturn, 1) := by decide +kernel
theorem dX2_clearAll_0 : decode cX2_clearAll 0 = .ok (.aload_n 0, 1) := by decide +kernel
theorem dX2_clearAll_1 : decode cX2_clearAll 1 = .ok (.iconst 0, 1) := by decide +kernel
theorem dX2_clearAll_2 : decode cX2_clearAll 2 = .ok (.putfield 15, 3) := by decide +kernel
theorem dX2_clearAll_5 : decode cX2_clearAll 5 = .ok (.aload_n 0, 1) := by decide +kernel
theorem dX2_clearAll_6 : decode cX2_clearAll 6 = .ok (.iconst 0, 1) := by decide +kernel
theorem dX2_clearAll_7 : decode cX2_clearAll 7 = .ok (.putfield 22, 3) := by decide +kernel
theorem dX2_clearAll_10 : decode cX2_clearAll 10 = .ok (.return_, 1) := by decide +kernel
theorem dX3_init_0 : decode cX3_init 0 = .ok (.aload_n 0, 1) := by decide +kernel
theorem dX3_init_1 : decode cX3_init 1 = .ok (.invokespecial 3, 3) := by decide +kernel
theorem dX3_init_4 : decode cX3_init 4 = .ok (.aload_n 0, 1) := by decide +kernel
theorem dX3_init_5 : decode cX3_init 5 = .ok (.iload_n 1, 1) := by decide +kernel
theorem dX3_init_6 : decode cX3_init 6 = .ok (.putfield 9, 3) := by decide +kernel
theorem dX3_init_9 : decode cX3_init 9 = .ok (.return_, 1) := by decide +kernel
theorem dX3_remember_0 : decode cX3_remember 0 = .ok (.aload_n 0, 1) := by decide +kernel
theorem dX3_remember_1 : decode cX3_remember 1 = .ok (.aload_n 0, 1) := by decide +kernel
theorem dX3_remember_2 : decode cX3_remember 2 = .ok (.getfield 15, 3) := by decide +kernel
theorem dX3_remember_5 : decode cX3_remember 5 = .ok (.putfield 18, 3) := by decide +kernel
theorem dX3_remember_8 : decode cX3_remember 8 = .ok (.aload_n 0, 1) := by decide +kernel
theorem dX3_remember_9 : decode cX3_remember 9 = .ok (.aload_n 0, 1) := by decide +kernel
theorem dX3_remember_10 : decode cX3_remember 10 = .ok (.getfield 21, 3) := by decide +kernel
theorem dX3_remember_13 : decode cX3_remember 13 = .ok (.putfield 25, 3) := by decide +kernel
theorem dX3_remember_16 : decode cX3_remember 16 = .ok (.aload_n 0, 1) := by decide +kernel
theorem dX3_remember_17 : decode cX3_remember 17 = .ok (.aload_n 0, 1) := by decide +kernel
theorem dX3_remember_18 : decode cX3_remember 18 = .ok (.getfield 28, 3) := by decide +kernel
theorem dX3_remember_21 : decode cX3_remember 21 = .ok (.putfield 31, 3) := by decide +kernel
theorem dX3_remember_24 : decode cX3_remember 24 = .ok (.return_, 1) := by decide +kernel
theorem dX3_recall_0 : decode cX3_recall 0 = .ok (.aload_n 0, 1) := by decide +kernel
theorem dX3_recall_1 : decode cX3_recall 1 = .ok (.aload_n 0, 1) := by decide +kernel
theorem dX3_recall_2 : decode cX3_recall 2 = .ok (.getfield 18, 3) := by decide +kernel
theorem dX3_recall_5 : decode cX3_recall 5 = .ok (.putfield 15, 3) := by decide +kernel
theorem dX3_recall_8 : decode cX3_recall 8 = .ok (.aload_n 0, 1) := by decide +kernel
theorem dX3_recall_9 : decode cX3_recall 9 = .ok (.aload_n 0, 1) := by decide +kernel
theorem dX3_recall_10 : decode cX3_recall 10 = .ok (.getfield 25, 3) := by decide +kernel
theorem dX3_recall_13 : decode cX3_recall 13 = .ok (.putfield 21, 3) := by decide +kernel
theorem dX3_recall_16 : decode cX3_recall 16 = .ok (.aload_n 0, 1) := by decide +kernel
theorem dX3_recall_17 : decode cX3_recall 17 = .ok (.aload_n 0, 1) := by decide +kernel
theorem dX3_recall_18 : decode cX3_recall 18 = .ok (.getfield 31, 3) := by decide +kernel
theorem dX3_recall_21 : decode cX3_recall 21 = .ok (.putfield 28, 3) := by decide +kernel
theorem dX3_recall_24 : decode cX3_recall 24 = .ok (.return_, 1) := by decide +kernel
theorem dX3_speedUnder_0 : decode cX3_speedUnder 0 = .ok (.sipush 200, 3) := by decide +kernel
theorem dX3_speedUnder_3 : decode cX3_speedUnder 3 = .ok (.iload_n 1, 1) := by decide +kernel
theorem dX3_speedUnder_4 : decode cX3_speedUnder 4 = .ok (.imul, 1) := by decide +kernel
theorem dX3_speedUnder_5 : decode cX3_speedUnder 5 = .ok (.istore_n 2, 1) := by decide +kernel
theorem dX3_speedUnder_6 : decode cX3_speedUnder 6 = .ok (.iload_n 2, 1) := by decide +kernel
theorem dX3_speedUnder_7 : decode cX3_speedUnder 7 = .ok (.ifCond .le 17, 3) := by decide +kernel
theorem dX3_speedUnder_10 : decode cX3_speedUnder 10 = .ok (.aload_n 0, 1) := by decide +kernel
theorem dX3_speedUnder_11 : decode cX3_speedUnder 11 = .ok (.getfield 9, 3) := by decide +kernel
theorem dX3_speedUnder_14 : decode cX3_speedUnder 14 = .ok (.aload_n 0, 1) := by decide +kernel
theorem dX3_speedUnder_15 : decode cX3_speedUnder 15 = .ok (.getfield 15, 3) := by decide +kernel
theorem dX3_speedUnder_18 : decode cX3_speedUnder 18 = .ok (.imul, 1) := by decide +kernel
theorem dX3_speedUnder_19 : decode cX3_speedUnder 19 = .ok (.iload_n 2, 1) := by decide +kernel
theorem dX3_speedUnder_20 : decode cX3_speedUnder 20 = .ok (.idiv, 1) := by decide +kernel
theorem dX3_speedUnder_21 : decode cX3_speedUnder 21 = .ok (.goto 4, 3) := by decide +kernel
theorem dX3_speedUnder_24 : decode cX3_speedUnder 24 = .ok (.iconst 0, 1) := by decide +kernel
theorem dX3_speedUnder_25 : decode cX3_speedUnder 25 = .ok (.istore_n 3, 1) := by decide +kernel
theorem dX3_speedUnder_26 : decode cX3_speedUnder 26 = .ok (.iload_n 3, 1) := by decide +kernel
theorem dX3_speedUnder_27 : decode cX3_speedUnder 27 = .ok (.iconst 1, 1) := by decide +kernel
theorem dX3_speedUnder_28 : decode cX3_speedUnder 28 = .ok (.invokestatic 34, 3) := by decide +kernel
theorem dX3_speedUnder_31 : decode cX3_speedUnder 31 = .ok (.sipush 400, 3) := by decide +kernel
theorem dX3_speedUnder_34 : decode cX3_speedUnder 34 = .ok (.invokestatic 40, 3) := by decide +kernel
theorem dX3_speedUnder_37 : decode cX3_speedUnder 37 = .ok (.aload_n 0, 1) := by decide +kernel
theorem dX3_speedUnder_38 : decode cX3_speedUnder 38 = .ok (.getfield 15, 3) := by decide +kernel
theorem dX3_speedUnder_41 : decode cX3_speedUnder 41 = .ok (.invokestatic 40, 3) := by decide +kernel
theorem dX3_speedUnder_44 : decode cX3_speedUnder 44 = .ok (.ireturn, 1) := by decide +kernel
theorem dX3_turn_0 : decode cX3_turn 0 = .ok (.aload_n 0, 1) := by decide +kernel
theorem dX3_turn_1 : decode cX3_turn 1 = .ok (.iload_n 1, 1) := by decide +kernel
theorem dX3_turn_2 : decode cX3_turn 2 = .ok (.putfield 28, 3) := by decide +kernel
theorem dX3_turn_5 : decode cX3_turn 5 = .ok (.aload_n 0, 1) := by decide +kernel
theorem dX3_turn_6 : decode cX3_turn 6 = .ok (.dup, 1) := by decide +kernel
theorem dX3_turn_7 : decode cX3_turn 7 = .ok (.getfield 21, 3) := by decide +kernel
theorem dX3_turn_10 : decode cX3_turn 10 = .ok (.iload_n 1, 1) := by decide +kernel
theorem dX3_turn_11 : decode cX3_turn 11 = .ok (.i2l, 1) := by decide +kernel
theorem dX3_turn_12 : decode cX3_turn 12 = .ok (.ladd, 1) := by decide +kernel
theorem dX3_turn_13 : decode cX3_turn 13 = .ok (.putfield 21, 3) := by decide +kernel
theorem dX3_turn_16 : decode cX3_turn 16 = .ok (.aload_n 0, 1) := by decide +kernel
theorem dX3_turn_17 : decode cX3_turn 17 = .ok (.dup, 1) := by decide +kernel
theorem dX3_turn_18 : decode cX3_turn 18 = .ok (.getfield 15, 3) := by decide +kernel
theorem dX3_turn_21 : decode cX3_turn 21 = .ok (.iload_n 1, 1) := by decide +kernel
theorem dX3_turn_22 : decode cX3_turn 22 = .ok (.isub, 1) := by decide +kernel
theorem dX3_turn_23 : decode cX3_turn 23 = .ok (.putfield 15, 3) := by decide +kernel
theorem dX3_turn_26 : decode cX3_turn 26 = .ok (.return_, 1) := by decide +kernel
theorem dX3_payForNote_0 : decode cX3_payForNote 0 = .ok (.aload_n 0, 1) := by decide +kernel
theorem dX3_payForNote_1 : decode cX3_payForNote 1 = .ok (.dup, 1) := by decide +kernel
theorem dX3_payForNote_2 : decode cX3_payForNote 2 = .ok (.getfield 15, 3) := by decide +kernel
theorem dX3_payForNote_5 : decode cX3_payForNote 5 = .ok (.bipush 10, 2) := by decide +kernel
theorem dX3_payForNote_7 : decode cX3_payForNote 7 = .ok (.aload_n 0, 1) := by decide +kernel
theorem dX3_payForNote_8 : decode cX3_payForNote 8 = .ok (.getfield 15, 3) := by decide +kernel
theorem dX3_payForNote_11 : decode cX3_payForNote 11 = .ok (.invokestatic 40, 3) := by decide +kernel
theorem dX3_payForNote_14 : decode cX3_payForNote 14 = .ok (.isub, 1) := by decide +kernel
theorem dX3_payForNote_15 : decode cX3_payForNote 15 = .ok (.putfield 15, 3) := by decide +kernel
theorem dX3_payForNote_18 : decode cX3_payForNote 18 = .ok (.return_, 1) := by decide +kernel
theorem dX4_init_0 : decode cX4_init 0 = .ok (.aload_n 0, 1) := by decide +kernel
theorem dX4_init_1 : decode cX4_init 1 = .ok (.invokespecial 1, 3) := by decide +kernel
theorem dX4_init_4 : decode cX4_init 4 = .ok (.aload_n 0, 1) := by decide +kernel
theorem dX4_init_5 : decode cX4_init 5 = .ok (.iconst 4, 1) := by decide +kernel
theorem dX4_init_6 : decode cX4_init 6 = .ok (.anewarray 9, 3) := by decide +kernel
theorem dX4_init_9 : decode cX4_init 9 = .ok (.putfield 11, 3) := by decide +kernel
theorem dX4_init_12 : decode cX4_init 12 = .ok (.aload_n 0, 1) := by decide +kernel
theorem dX4_init_13 : decode cX4_init 13 = .ok (.bipush 8, 2) := by decide +kernel
theorem dX4_init_15 : decode cX4_init 15 = .ok (.anewarray 15, 3) := by decide +kernel
theorem dX4_init_18 : decode cX4_init 18 = .ok (.putfield 17, 3) := by decide +kernel
theorem dX4_init_21 : decode cX4_init 21 = .ok (.aload_n 0, 1) := by decide +kernel
theorem dX4_init_22 : decode cX4_init 22 = .ok (.new 21, 3) := by decide +kernel
theorem dX4_init_25 : decode cX4_init 25 = .ok (.dup, 1) := by decide +kernel
theorem dX4_init_26 : decode cX4_init 26 = .ok (.invokespecial 23, 3) := by decide +kernel
theorem dX4_init_29 : decode cX4_init 29 = .ok (.putfield 24, 3) := by decide +kernel
theorem dX4_init_32 : decode cX4_init 32 = .ok (.return_, 1) := by decide +kernel
theorem dX4_addSpring_0 : decode cX4_addSpring 0 = .ok (.iload_n 1, 1) := by decide +kernel
theorem dX4_addSpring_1 : decode cX4_addSpring 1 = .ok (.iconst 1, 1) := by decide +kernel
theorem dX4_addSpring_2 : decode cX4_addSpring 2 = .ok (.bipush 50, 2) := by decide +kernel
theorem dX4_addSpring_4 : decode cX4_addSpring 4 = .ok (.invokestatic 28, 3) := by decide +kernel
theorem dX4_addSpring_7 : decode cX4_addSpring 7 = .ok (.ifCond .ne 13, 3) := by decide +kernel
theorem dX4_addSpring_10 : decode cX4_addSpring 10 = .ok (.new 32, 3) := by decide +kernel
theorem dX4_addSpring_13 : decode cX4_addSpring 13 = .ok (.dup, 1) := by decide +kernel
theorem dX4_addSpring_14 : decode cX4_addSpring 14 = .ok (.ldc 34, 2) := by decide +kernel
theorem dX4_addSpring_16 : decode cX4_addSpring 16 = .ok (.invokespecial 36, 3) := by decide +kernel
theorem dX4_addSpring_19 : decode cX4_addSpring 19 = .ok (.athrow, 1) := by decide +kernel
theorem dX4_addSpring_20 : decode cX4_addSpring 20 = .ok (.aload_n 0, 1) := by decide +kernel
theorem dX4_addSpring_21 : decode cX4_addSpring 21 = .ok (.getfield 39, 3) := by decide +kernel
theorem dX4_addSpring_24 : decode cX4_addSpring 24 = .ok (.istore_n 2, 1) := by decide +kernel
theorem dX4_addSpring_25 : decode cX4_addSpring 25 = .ok (.iload_n 2, 1) := by decide +kernel
theorem dX4_addSpring_26 : decode cX4_addSpring 26 = .ok (.ifCond .lt 12, 3) := by decide +kernel
theorem dX4_addSpring_29 : decode cX4_addSpring 29 = .ok (.iload_n 2, 1) := by decide +kernel
theorem dX4_addSpring_30 : decode cX4_addSpring 30 = .ok (.aload_n 0, 1) := by decide +kernel
theorem dX4_addSpring_31 : decode cX4_addSpring 31 = .ok (.getfield 11, 3) := by decide +kernel
theorem dX4_addSpring_34 : decode cX4_addSpring 34 = .ok (.arraylength, 1) := by decide +kernel
theorem dX4_addSpring_35 : decode cX4_addSpring 35 = .ok (.if_icmp .lt 13, 3) := by decide +kernel
theorem dX4_addSpring_38 : decode cX4_addSpring 38 = .ok (.new 43, 3) := by decide +kernel
theorem dX4_addSpring_41 : decode cX4_addSpring 41 = .ok (.dup, 1) := by decide +kernel
theorem dX4_addSpring_42 : decode cX4_addSpring 42 = .ok (.ldc 45, 2) := by decide +kernel
theorem dX4_addSpring_44 : decode cX4_addSpring 44 = .ok (.invokespecial 47, 3) := by decide +kernel
theorem dX4_addSpring_47 : decode cX4_addSpring 47 = .ok (.athrow, 1) := by decide +kernel
theorem dX4_addSpring_48 : decode cX4_addSpring 48 = .ok (.aload_n 0, 1) := by decide +kernel
theorem dX4_addSpring_49 : decode cX4_addSpring 49 = .ok (.getfield 11, 3) := by decide +kernel
theorem dX4_addSpring_52 : decode cX4_addSpring 52 = .ok (.iload_n 2, 1) := by decide +kernel
theorem dX4_addSpring_53 : decode cX4_addSpring 53 = .ok (.new 9, 3) := by decide +kernel
theorem dX4_addSpring_56 : decode cX4_addSpring 56 = .ok (.dup, 1) := by decide +kernel
theorem dX4_addSpring_57 : decode cX4_addSpring 57 = .ok (.iload_n 1, 1) := by decide +kernel
theorem dX4_addSpring_58 : decode cX4_addSpring 58 = .ok (.invokespecial 48, 3) := by decide +kernel
theorem dX4_addSpring_61 : decode cX4_addSpring 61 = .ok (.aastore, 1) := by decide +kernel
theorem dX4_addSpring_62 : decode cX4_addSpring 62 = .ok (.aload_n 0, 1) := by decide +kernel
theorem dX4_addSpring_63 : decode cX4_addSpring 63 = .ok (.dup, 1) := by decide +kernel
theorem dX4_addSpring_64 : decode cX4_addSpring 64 = .ok (.getfield 39, 3) := by decide +kernel
theorem dX4_addSpring_67 : decode cX4_addSpring 67 = .ok (.iconst 1, 1) := by decide +kernel
theorem dX4_addSpring_68 : decode cX4_addSpring 68 = .ok (.iadd, 1) := by decide +kernel
theorem dX4_addSpring_69 : decode cX4_addSpring 69 = .ok (.putfield 39, 3) := by decide +kernel
theorem dX4_addSpring_72 : decode cX4_addSpring 72 = .ok (.iload_n 2, 1) := by decide +kernel
theorem dX4_addSpring_73 : decode cX4_addSpring 73 = .ok (.ireturn, 1) := by decide +kernel
theorem dX4_wind_0 : decode cX4_wind 0 = .ok (.aload_n 0, 1) := by decide +kernel
theorem dX4_wind_1 : decode cX4_wind 1 = .ok (.iload_n 1, 1) := by decide +kernel
theorem dX4_wind_2 : decode cX4_wind 2 = .ok (.invokevirtual 51, 3) := by decide +kernel
theorem dX4_wind_5 : decode cX4_wind 5 = .ok (.astore_n 3, 1) := by decide +kernel
theorem dX4_wind_6 : decode cX4_wind 6 = .ok (.aload_n 3, 1) := by decide +kernel
theorem dX4_wind_7 : decode cX4_wind 7 = .ok (.ifnonnull 13, 3) := by decide +kernel
theorem dX4_wind_10 : decode cX4_wind 10 = .ok (.new 55, 3) := by decide +kernel
theorem dX4_wind_13 : decode cX4_wind 13 = .ok (.dup, 1) := by decide +kernel
theorem dX4_wind_14 : decode cX4_wind 14 = .ok (.ldc 57, 2) := by decide +kernel
theorem dX4_wind_16 : decode cX4_wind 16 = .ok (.invokespecial 59, 3) := by decide +kernel
theorem dX4_wind_19 : decode cX4_wind 19 = .ok (.athrow, 1) := by decide +kernel
theorem dX4_wind_20 : decode cX4_wind 20 = .ok (.iload_n 2, 1) := by decide +kernel
theorem dX4_wind_21 : decode cX4_wind 21 = .ok (.iconst 1, 1) := by decide +kernel
theorem dX4_wind_22 : decode cX4_wind 22 = .ok (.ldc 60, 2) := by decide +kernel
theorem dX4_wind_24 : decode cX4_wind 24 = .ok (.invokestatic 28, 3) := by decide +kernel
theorem dX4_wind_27 : decode cX4_wind 27 = .ok (.ifCond .ne 13, 3) := by decide +kernel
theorem dX4_wind_30 : decode cX4_wind 30 = .ok (.new 32, 3) := by decide +kernel
theorem dX4_wind_33 : decode cX4_wind 33 = .ok (.dup, 1) := by decide +kernel
theorem dX4_wind_34 : decode cX4_wind 34 = .ok (.ldc 61, 2) := by decide +kernel
theorem dX4_wind_36 : decode cX4_wind 36 = .ok (.invokespecial 36, 3) := by decide +kernel
theorem dX4_wind_39 : decode cX4_wind 39 = .ok (.athrow, 1) := by decide +kernel
theorem dX4_wind_40 : decode cX4_wind 40 = .ok (.aload_n 3, 1) := by decide +kernel
theorem dX4_wind_41 : decode cX4_wind 41 = .ok (.aload_n 3, 1) := by decide +kernel
theorem dX4_wind_42 : decode cX4_wind 42 = .ok (.getfield 63, 3) := by decide +kernel
theorem dX4_wind_45 : decode cX4_wind 45 = .ok (.iload_n 2, 1) := by decide +kernel
theorem dX4_wind_46 : decode cX4_wind 46 = .ok (.iadd, 1) := by decide +kernel
theorem dX4_wind_47 : decode cX4_wind 47 = .ok (.ldc 60, 2) := by decide +kernel
theorem dX4_wind_49 : decode cX4_wind 49 = .ok (.invokestatic 66, 3) := by decide +kernel
theorem dX4_wind_52 : decode cX4_wind 52 = .ok (.putfield 63, 3) := by decide +kernel
theorem dX4_wind_55 : decode cX4_wind 55 = .ok (.aload_n 3, 1) := by decide +kernel
theorem dX4_wind_56 : decode cX4_wind 56 = .ok (.getfield 63, 3) := by decide +kernel
theorem dX4_wind_59 : decode cX4_wind 59 = .ok (.ireturn, 1) := by decide +kernel
theorem dX4_brake_0 : decode cX4_brake 0 = .ok (.aload_n 0, 1) := by decide +kernel
theorem dX4_brake_1 : decode cX4_brake 1 = .ok (.iload_n 1, 1) := by decide +kernel
theorem dX4_brake_2 : decode cX4_brake 2 = .ok (.invokevirtual 51, 3) := by decide +kernel
theorem dX4_brake_5 : decode cX4_brake 5 = .ok (.astore_n 3, 1) := by decide +kernel
theorem dX4_brake_6 : decode cX4_brake 6 = .ok (.aload_n 3, 1) := by decide +kernel
theorem dX4_brake_7 : decode cX4_brake 7 = .ok (.ifnonnull 13, 3) := by decide +kernel
theorem dX4_brake_10 : decode cX4_brake 10 = .ok (.new 55, 3) := by decide +kernel
theorem dX4_brake_13 : decode cX4_brake 13 = .ok (.dup, 1) := by decide +kernel
theorem dX4_brake_14 : decode cX4_brake 14 = .ok (.ldc 57, 2) := by decide +kernel
theorem dX4_brake_16 : decode cX4_brake 16 = .ok (.invokespecial 59, 3) := by decide +kernel
theorem dX4_brake_19 : decode cX4_brake 19 = .ok (.athrow, 1) := by decide +kernel
theorem dX4_brake_20 : decode cX4_brake 20 = .ok (.aload_n 3, 1) := by decide +kernel
theorem dX4_brake_21 : decode cX4_brake 21 = .ok (.getfield 72, 3) := by decide +kernel
theorem dX4_brake_24 : decode cX4_brake 24 = .ok (.istore 4, 2) := by decide +kernel
theorem dX4_brake_26 : decode cX4_brake 26 = .ok (.aload_n 3, 1) := by decide +kernel
theorem dX4_brake_27 : decode cX4_brake 27 = .ok (.iload_n 2, 1) := by decide +kernel
theorem dX4_brake_28 : decode cX4_brake 28 = .ok (.putfield 72, 3) := by decide +kernel
theorem dX4_brake_31 : decode cX4_brake 31 = .ok (.iload 4, 2) := by decide +kernel
theorem dX4_brake_33 : decode cX4_brake 33 = .ok (.ireturn, 1) := by decide +kernel
theorem dX4_couple_0 : decode cX4_couple 0 = .ok (.aload_n 0, 1) := by decide +kernel
theorem dX4_couple_1 : decode cX4_couple 1 = .ok (.iload_n 1, 1) := by decide +kernel
theorem dX4_couple_2 : decode cX4_couple 2 = .ok (.invokevirtual 51, 3) := by decide +kernel
theorem dX4_couple_5 : decode cX4_couple 5 = .ok (.ifnull 11, 3) := by decide +kernel
theorem dX4_couple_8 : decode cX4_couple 8 = .ok (.aload_n 0, 1) := by decide +kernel
theorem dX4_couple_9 : decode cX4_couple 9 = .ok (.iload_n 2, 1) := by decide +kernel
theorem dX4_couple_10 : decode cX4_couple 10 = .ok (.invokevirtual 51, 3) := by decide +kernel
theorem dX4_couple_13 : decode cX4_couple 13 = .ok (.ifnonnull 13, 3) := by decide +kernel
theorem dX4_couple_16 : decode cX4_couple 16 = .ok (.new 55, 3) := by decide +kernel
theorem dX4_couple_19 : decode cX4_couple 19 = .ok (.dup, 1) := by decide +kernel
theorem dX4_couple_20 : decode cX4_couple 20 = .ok (.ldc 57, 2) := by decide +kernel
theorem dX4_couple_22 : decode cX4_couple 22 = .ok (.invokespecial 59, 3) := by decide +kernel
theorem dX4_couple_25 : decode cX4_couple 25 = .ok (.athrow, 1) := by decide +kernel
theorem dX4_couple_26 : decode cX4_couple 26 = .ok (.iload_n 1, 1) := by decide +kernel
theorem dX4_couple_27 : decode cX4_couple 27 = .ok (.iload_n 2, 1) := by decide +kernel
theorem dX4_couple_28 : decode cX4_couple 28 = .ok (.if_icmp .ne 13, 3) := by decide +kernel
theorem dX4_couple_31 : decode cX4_couple 31 = .ok (.new 32, 3) := by decide +kernel
theorem dX4_couple_34 : decode cX4_couple 34 = .ok (.dup, 1) := by decide +kernel
theorem dX4_couple_35 : decode cX4_couple 35 = .ok (.ldc 76, 2) := by decide +kernel
theorem dX4_couple_37 : decode cX4_couple 37 = .ok (.invokespecial 36, 3) := by decide +kernel
theorem dX4_couple_40 : decode cX4_couple 40 = .ok (.athrow, 1) := by decide +kernel
theorem dX4_couple_41 : decode cX4_couple 41 = .ok (.iload_n 1, 1) := by decide +kernel
theorem dX4_couple_42 : decode cX4_couple 42 = .ok (.iload_n 2, 1) := by decide +kernel
theorem dX4_couple_43 : decode cX4_couple 43 = .ok (.invokestatic 78, 3) := by decide +kernel
theorem dX4_couple_46 : decode cX4_couple 46 = .ok (.istore 4, 2) := by decide +kernel
theorem dX4_couple_48 : decode cX4_couple 48 = .ok (.aload_n 0, 1) := by decide +kernel
theorem dX4_couple_49 : decode cX4_couple 49 = .ok (.iload_n 3, 1) := by decide +kernel
theorem dX4_couple_50 : decode cX4_couple 50 = .ok (.ifCond .eq 13, 3) := by decide +kernel
theorem dX4_couple_53 : decode cX4_couple 53 = .ok (.aload_n 0, 1) := by decide +kernel
theorem dX4_couple_54 : decode cX4_couple 54 = .ok (.getfield 81, 3) := by decide +kernel
theorem dX4_couple_57 : decode cX4_couple 57 = .ok (.iload 4, 2) := by decide +kernel
theorem dX4_couple_59 : decode cX4_couple 59 = .ok (.ior, 1) := by decide +kernel
theorem dX4_couple_60 : decode cX4_couple 60 = .ok (.goto 12, 3) := by decide +kernel
theorem dX4_couple_63 : decode cX4_couple 63 = .ok (.aload_n 0, 1) := by decide +kernel
theorem dX4_couple_64 : decode cX4_couple 64 = .ok (.getfield 81, 3) := by decide +kernel
theorem dX4_couple_67 : decode cX4_couple 67 = .ok (.iload 4, 2) := by decide +kernel
theorem dX4_couple_69 : decode cX4_couple 69 = .ok (.iconst (-1), 1) := by decide +kernel
theorem dX4_couple_70 : decode cX4_couple 70 = .ok (.ixor, 1) := by decide +kernel
theorem dX4_couple_71 : decode cX4_couple 71 = .ok (.iand, 1) := by decide +kernel
theorem dX4_couple_72 : decode cX4_couple 72 = .ok (.putfield 81, 3) := by decide +kernel
theorem dX4_couple_75 : decode cX4_couple 75 = .ok (.aload_n 0, 1) := by decide +kernel
theorem dX4_couple_76 : decode cX4_couple 76 = .ok (.getfield 81, 3) := by decide +kernel
theorem dX4_couple_79 : decode cX4_couple 79 = .ok (.invokestatic 84, 3) := by decide +kernel
theorem dX4_couple_82 : decode cX4_couple 82 = .ok (.ireturn, 1) := by decide +kernel
theorem dX4_spring_0 : decode cX4_spring 0 = .ok (.aload_n 0, 1) := by decide +kernel
theorem dX4_spring_1 : decode cX4_spring 1 = .ok (.iload_n 1, 1) := by decide +kernel
theorem dX4_spring_2 : decode cX4_spring 2 = .ok (.invokevirtual 51, 3) := by decide +kernel
theorem dX4_spring_5 : decode cX4_spring 5 = .ok (.astore_n 3, 1) := by decide +kernel
theorem dX4_spring_6 : decode cX4_spring 6 = .ok (.aload_n 3, 1) := by decide +kernel
theorem dX4_spring_7 : decode cX4_spring 7 = .ok (.ifnonnull 13, 3) := by decide +kernel
theorem dX4_spring_10 : decode cX4_spring 10 = .ok (.new 55, 3) := by decide +kernel
theorem dX4_spring_13 : decode cX4_spring 13 = .ok (.dup, 1) := by decide +kernel
theorem dX4_spring_14 : decode cX4_spring 14 = .ok (.ldc 57, 2) := by decide +kernel
theorem dX4_spring_16 : decode cX4_spring 16 = .ok (.invokespecial 59, 3) := by decide +kernel
theorem dX4_spring_19 : decode cX4_spring 19 = .ok (.athrow, 1) := by decide +kernel
theorem dX4_spring_20 : decode cX4_spring 20 = .ok (.iload_n 2, 1) := by decide +kernel
theorem dX4_spring_21 : decode cX4_spring 21 = .ok (.tableswitch 89 0 6 #[43, 48, 53, 59, 64, 77, 83], 43) := by decide +kernel
theorem dX4_spring_64 : decode cX4_spring 64 = .ok (.aload_n 3, 1) := by decide +kernel
theorem dX4_spring_65 : decode cX4_spring 65 = .ok (.getfield 90, 3) := by decide +kernel
theorem dX4_spring_68 : decode cX4_spring 68 = .ok (.ireturn, 1) := by decide +kernel
theorem dX4_spring_69 : decode cX4_spring 69 = .ok (.aload_n 3, 1) := by decide +kernel
theorem dX4_spring_70 : decode cX4_spring 70 = .ok (.getfield 63, 3) := by decide +kernel
theorem dX4_spring_73 : decode cX4_spring 73 = .ok (.ireturn, 1) := by decide +kernel
theorem dX4_spring_74 : decode cX4_spring 74 = .ok (.aload_n 3, 1) := by decide +kernel
theorem dX4_spring_75 : decode cX4_spring 75 = .ok (.getfield 93, 3) := by decide +kernel
theorem dX4_spring_78 : decode cX4_spring 78 = .ok (.l2i, 1) := by decide +kernel
theorem dX4_spring_79 : decode cX4_spring 79 = .ok (.ireturn, 1) := by decide +kernel
theorem dX4_spring_80 : decode cX4_spring 80 = .ok (.aload_n 3, 1) := by decide +kernel
theorem dX4_spring_81 : decode cX4_spring 81 = .ok (.getfield 97, 3) := by decide +kernel
theorem dX4_spring_84 : decode cX4_spring 84 = .ok (.ireturn, 1) := by decide +kernel
theorem dX4_spring_85 : decode cX4_spring 85 = .ok (.aload_n 3, 1) := by decide +kernel
theorem dX4_spring_86 : decode cX4_spring 86 = .ok (.getfield 72, 3) := by decide +kernel
theorem dX4_spring_89 : decode cX4_spring 89 = .ok (.ifCond .eq 7, 3) := by decide +kernel
theorem dX4_spring_92 : decode cX4_spring 92 = .ok (.iconst 1, 1) := by decide +kernel
theorem dX4_spring_93 : decode cX4_spring 93 = .ok (.goto 4, 3) := by decide +kernel
theorem dX4_spring_96 : decode cX4_spring 96 = .ok (.iconst 0, 1) := by decide +kernel
theorem dX4_spring_97 : decode cX4_spring 97 = .ok (.ireturn, 1) := by decide +kernel
theorem dX4_spring_98 : decode cX4_spring 98 = .ok (.aload_n 0, 1) := by decide +kernel
theorem dX4_spring_99 : decode cX4_spring 99 = .ok (.iload_n 1, 1) := by decide +kernel
theorem dX4_spring_100 : decode cX4_spring 100 = .ok (.invokevirtual 100, 3) := by decide +kernel
theorem dX4_spring_103 : decode cX4_spring 103 = .ok (.ireturn, 1) := by decide +kernel
theorem dX4_spring_104 : decode cX4_spring 104 = .ok (.aload_n 0, 1) := by decide +kernel
theorem dX4_spring_105 : decode cX4_spring 105 = .ok (.iload_n 1, 1) := by decide +kernel
theorem dX4_spring_106 : decode cX4_spring 106 = .ok (.invokevirtual 103, 3) := by decide +kernel
theorem dX4_spring_109 : decode cX4_spring 109 = .ok (.ireturn, 1) := by decide +kernel
theorem dX4_spring_110 : decode cX4_spring 110 = .ok (.new 55, 3) := by decide +kernel
theorem dX4_spring_113 : decode cX4_spring 113 = .ok (.dup, 1) := by decide +kernel
theorem dX4_spring_114 : decode cX4_spring 114 = .ok (.ldc 106, 2) := by decide +kernel
theorem dX4_spring_116 : decode cX4_spring 116 = .ok (.invokespecial 59, 3) := by decide +kernel
theorem dX4_spring_119 : decode cX4_spring 119 = .ok (.athrow, 1) := by decide +kernel
theorem dX4_addBird_0 : decode cX4_addBird 0 = .ok (.aload_n 0, 1) := by decide +kernel
theorem dX4_addBird_1 : decode cX4_addBird 1 = .ok (.iload_n 1, 1) := by decide +kernel
theorem dX4_addBird_2 : decode cX4_addBird 2 = .ok (.invokevirtual 51, 3) := by decide +kernel
theorem dX4_addBird_5 : decode cX4_addBird 5 = .ok (.astore 6, 2) := by decide +kernel
theorem dX4_addBird_7 : decode cX4_addBird 7 = .ok (.aload 6, 2) := by decide +kernel
theorem dX4_addBird_9 : decode cX4_addBird 9 = .ok (.ifnonnull 13, 3) := by decide +kernel
theorem dX4_addBird_12 : decode cX4_addBird 12 = .ok (.new 55, 3) := by decide +kernel
theorem dX4_addBird_15 : decode cX4_addBird 15 = .ok (.dup, 1) := by decide +kernel
theorem dX4_addBird_16 : decode cX4_addBird 16 = .ok (.ldc 57, 2) := by decide +kernel
theorem dX4_addBird_18 : decode cX4_addBird 18 = .ok (.invokespecial 59, 3) := by decide +kernel
theorem dX4_addBird_21 : decode cX4_addBird 21 = .ok (.athrow, 1) := by decide +kernel
theorem dX4_addBird_22 : decode cX4_addBird 22 = .ok (.iload_n 2, 1) := by decide +kernel
theorem dX4_addBird_23 : decode cX4_addBird 23 = .ok (.iconst 0, 1) := by decide +kernel
theorem dX4_addBird_24 : decode cX4_addBird 24 = .ok (.bipush 20, 2) := by decide +kernel
theorem dX4_addBird_26 : decode cX4_addBird 26 = .ok (.invokestatic 28, 3) := by decide +kernel
theorem dX4_addBird_29 : decode cX4_addBird 29 = .ok (.ifCond .ne 13, 3) := by decide +kernel
theorem dX4_addBird_32 : decode cX4_addBird 32 = .ok (.new 32, 3) := by decide +kernel
theorem dX4_addBird_35 : decode cX4_addBird 35 = .ok (.dup, 1) := by decide +kernel
theorem dX4_addBird_36 : decode cX4_addBird 36 = .ok (.ldc 108, 2) := by decide +kernel
theorem dX4_addBird_38 : decode cX4_addBird 38 = .ok (.invokespecial 36, 3) := by decide +kernel
theorem dX4_addBird_41 : decode cX4_addBird 41 = .ok (.athrow, 1) := by decide +kernel
theorem dX4_addBird_42 : decode cX4_addBird 42 = .ok (.iload_n 3, 1) := by decide +kernel
theorem dX4_addBird_43 : decode cX4_addBird 43 = .ok (.bipush 8, 2) := by decide +kernel
theorem dX4_addBird_45 : decode cX4_addBird 45 = .ok (.bipush 96, 2) := by decide +kernel
theorem dX4_addBird_47 : decode cX4_addBird 47 = .ok (.invokestatic 28, 3) := by decide +kernel
theorem dX4_addBird_50 : decode cX4_addBird 50 = .ok (.ifCond .ne 13, 3) := by decide +kernel
theorem dX4_addBird_53 : decode cX4_addBird 53 = .ok (.new 32, 3) := by decide +kernel
theorem dX4_addBird_56 : decode cX4_addBird 56 = .ok (.dup, 1) := by decide +kernel
theorem dX4_addBird_57 : decode cX4_addBird 57 = .ok (.ldc 110, 2) := by decide +kernel
theorem dX4_addBird_59 : decode cX4_addBird 59 = .ok (.invokespecial 36, 3) := by decide +kernel
theorem dX4_addBird_62 : decode cX4_addBird 62 = .ok (.athrow, 1) := by decide +kernel
theorem dX4_addBird_63 : decode cX4_addBird 63 = .ok (.iload 4, 2) := by decide +kernel
theorem dX4_addBird_65 : decode cX4_addBird 65 = .ok (.iconst 1, 1) := by decide +kernel
theorem dX4_addBird_66 : decode cX4_addBird 66 = .ok (.bipush 12, 2) := by decide +kernel
theorem dX4_addBird_68 : decode cX4_addBird 68 = .ok (.invokestatic 28, 3) := by decide +kernel
theorem dX4_addBird_71 : decode cX4_addBird 71 = .ok (.ifCond .eq 14, 3) := by decide +kernel
theorem dX4_addBird_74 : decode cX4_addBird 74 = .ok (.iload 5, 2) := by decide +kernel
theorem dX4_addBird_76 : decode cX4_addBird 76 = .ok (.iconst 1, 1) := by decide +kernel
theorem dX4_addBird_77 : decode cX4_addBird 77 = .ok (.bipush 12, 2) := by decide +kernel
theorem dX4_addBird_79 : decode cX4_addBird 79 = .ok (.invokestatic 28, 3) := by decide +kernel
theorem dX4_addBird_82 : decode cX4_addBird 82 = .ok (.ifCond .ne 13, 3) := by decide +kernel
theorem dX4_addBird_85 : decode cX4_addBird 85 = .ok (.new 32, 3) := by decide +kernel
theorem dX4_addBird_88 : decode cX4_addBird 88 = .ok (.dup, 1) := by decide +kernel
theorem dX4_addBird_89 : decode cX4_addBird 89 = .ok (.ldc 112, 2) := by decide +kernel
theorem dX4_addBird_91 : decode cX4_addBird 91 = .ok (.invokespecial 36, 3) := by decide +kernel
theorem dX4_addBird_94 : decode cX4_addBird 94 = .ok (.athrow, 1) := by decide +kernel
theorem dX4_addBird_95 : decode cX4_addBird 95 = .ok (.aload_n 0, 1) := by decide +kernel
theorem dX4_addBird_96 : decode cX4_addBird 96 = .ok (.getfield 114, 3) := by decide +kernel
theorem dX4_addBird_99 : decode cX4_addBird 99 = .ok (.istore 7, 2) := by decide +kernel
theorem dX4_addBird_101 : decode cX4_addBird 101 = .ok (.iload 7, 2) := by decide +kernel
theorem dX4_addBird_103 : decode cX4_addBird 103 = .ok (.ifCond .lt 13, 3) := by decide +kernel
theorem dX4_addBird_106 : decode cX4_addBird 106 = .ok (.iload 7, 2) := by decide +kernel
theorem dX4_addBird_108 : decode cX4_addBird 108 = .ok (.aload_n 0, 1) := by decide +kernel
theorem dX4_addBird_109 : decode cX4_addBird 109 = .ok (.getfield 17, 3) := by decide +kernel
theorem dX4_addBird_112 : decode cX4_addBird 112 = .ok (.arraylength, 1) := by decide +kernel
theorem dX4_addBird_113 : decode cX4_addBird 113 = .ok (.if_icmp .lt 13, 3) := by decide +kernel
theorem dX4_addBird_116 : decode cX4_addBird 116 = .ok (.new 43, 3) := by decide +kernel
theorem dX4_addBird_119 : decode cX4_addBird 119 = .ok (.dup, 1) := by decide +kernel
theorem dX4_addBird_120 : decode cX4_addBird 120 = .ok (.ldc 117, 2) := by decide +kernel
theorem dX4_addBird_122 : decode cX4_addBird 122 = .ok (.invokespecial 47, 3) := by decide +kernel
theorem dX4_addBird_125 : decode cX4_addBird 125 = .ok (.athrow, 1) := by decide +kernel
theorem dX4_addBird_126 : decode cX4_addBird 126 = .ok (.aload_n 0, 1) := by decide +kernel
theorem dX4_addBird_127 : decode cX4_addBird 127 = .ok (.getfield 17, 3) := by decide +kernel
theorem dX4_addBird_130 : decode cX4_addBird 130 = .ok (.iload 7, 2) := by decide +kernel
theorem dX4_addBird_132 : decode cX4_addBird 132 = .ok (.new 15, 3) := by decide +kernel
theorem dX4_addBird_135 : decode cX4_addBird 135 = .ok (.dup, 1) := by decide +kernel
theorem dX4_addBird_136 : decode cX4_addBird 136 = .ok (.iload_n 1, 1) := by decide +kernel
theorem dX4_addBird_137 : decode cX4_addBird 137 = .ok (.iload_n 2, 1) := by decide +kernel
theorem dX4_addBird_138 : decode cX4_addBird 138 = .ok (.iload_n 3, 1) := by decide +kernel
theorem dX4_addBird_139 : decode cX4_addBird 139 = .ok (.iload 4, 2) := by decide +kernel
theorem dX4_addBird_141 : decode cX4_addBird 141 = .ok (.iload 5, 2) := by decide +kernel
theorem dX4_addBird_143 : decode cX4_addBird 143 = .ok (.aload 6, 2) := by decide +kernel
theorem dX4_addBird_145 : decode cX4_addBird 145 = .ok (.getfield 93, 3) := by decide +kernel
theorem dX4_addBird_148 : decode cX4_addBird 148 = .ok (.invokespecial 119, 3) := by decide +kernel
theorem dX4_addBird_151 : decode cX4_addBird 151 = .ok (.aastore, 1) := by decide +kernel
theorem dX4_addBird_152 : decode cX4_addBird 152 = .ok (.aload_n 0, 1) := by decide +kernel
theorem dX4_addBird_153 : decode cX4_addBird 153 = .ok (.dup, 1) := by decide +kernel
theorem dX4_addBird_154 : decode cX4_addBird 154 = .ok (.getfield 114, 3) := by decide +kernel
theorem dX4_addBird_157 : decode cX4_addBird 157 = .ok (.iconst 1, 1) := by decide +kernel
theorem dX4_addBird_158 : decode cX4_addBird 158 = .ok (.iadd, 1) := by decide +kernel
theorem dX4_addBird_159 : decode cX4_addBird 159 = .ok (.putfield 114, 3) := by decide +kernel
theorem dX4_addBird_162 : decode cX4_addBird 162 = .ok (.iload 7, 2) := by decide +kernel
theorem dX4_addBird_164 : decode cX4_addBird 164 = .ok (.ireturn, 1) := by decide +kernel
theorem dX4_engage_0 : decode cX4_engage 0 = .ok (.aload_n 0, 1) := by decide +kernel
theorem dX4_engage_1 : decode cX4_engage 1 = .ok (.iload_n 1, 1) := by decide +kernel
theorem dX4_engage_2 : decode cX4_engage 2 = .ok (.invokevirtual 122, 3) := by decide +kernel
theorem dX4_engage_5 : decode cX4_engage 5 = .ok (.astore_n 3, 1) := by decide +kernel
theorem dX4_engage_6 : decode cX4_engage 6 = .ok (.aload_n 3, 1) := by decide +kernel
theorem dX4_engage_7 : decode cX4_engage 7 = .ok (.ifnonnull 13, 3) := by decide +kernel
theorem dX4_engage_10 : decode cX4_engage 10 = .ok (.new 55, 3) := by decide +kernel
theorem dX4_engage_13 : decode cX4_engage 13 = .ok (.dup, 1) := by decide +kernel
theorem dX4_engage_14 : decode cX4_engage 14 = .ok (.ldc 126, 2) := by decide +kernel
theorem dX4_engage_16 : decode cX4_engage 16 = .ok (.invokespecial 59, 3) := by decide +kernel
theorem dX4_engage_19 : decode cX4_engage 19 = .ok (.athrow, 1) := by decide +kernel
theorem dX4_engage_20 : decode cX4_engage 20 = .ok (.aload_n 3, 1) := by decide +kernel
theorem dX4_engage_21 : decode cX4_engage 21 = .ok (.getfield 128, 3) := by decide +kernel
theorem dX4_engage_24 : decode cX4_engage 24 = .ok (.istore 4, 2) := by decide +kernel
theorem dX4_engage_26 : decode cX4_engage 26 = .ok (.iload_n 2, 1) := by decide +kernel
theorem dX4_engage_27 : decode cX4_engage 27 = .ok (.ifCond .eq 36, 3) := by decide +kernel
theorem dX4_engage_30 : decode cX4_engage 30 = .ok (.iload 4, 2) := by decide +kernel
theorem dX4_engage_32 : decode cX4_engage 32 = .ok (.ifCond .ne 31, 3) := by decide +kernel
theorem dX4_engage_35 : decode cX4_engage 35 = .ok (.aload_n 0, 1) := by decide +kernel
theorem dX4_engage_36 : decode cX4_engage 36 = .ok (.aload_n 3, 1) := by decide +kernel
theorem dX4_engage_37 : decode cX4_engage 37 = .ok (.getfield 131, 3) := by decide +kernel
theorem dX4_engage_40 : decode cX4_engage 40 = .ok (.invokevirtual 51, 3) := by decide +kernel
theorem dX4_engage_43 : decode cX4_engage 43 = .ok (.astore 5, 2) := by decide +kernel
theorem dX4_engage_45 : decode cX4_engage 45 = .ok (.aload_n 3, 1) := by decide +kernel
theorem dX4_engage_46 : decode cX4_engage 46 = .ok (.aload 5, 2) := by decide +kernel
theorem dX4_engage_48 : decode cX4_engage 48 = .ok (.ifnonnull 7, 3) := by decide +kernel
theorem dX4_engage_51 : decode cX4_engage 51 = .ok (.lconst 0, 1) := by decide +kernel
theorem dX4_engage_52 : decode cX4_engage 52 = .ok (.goto 8, 3) := by decide +kernel
theorem dX4_engage_55 : decode cX4_engage 55 = .ok (.aload 5, 2) := by decide +kernel
theorem dX4_engage_57 : decode cX4_engage 57 = .ok (.getfield 93, 3) := by decide +kernel
theorem dX4_engage_60 : decode cX4_engage 60 = .ok (.invokevirtual 134, 3) := by decide +kernel
theorem dX4_engage_63 : decode cX4_engage 63 = .ok (.aload_n 3, 1) := by decide +kernel
theorem dX4_engage_64 : decode cX4_engage 64 = .ok (.iload_n 2, 1) := by decide +kernel
theorem dX4_engage_65 : decode cX4_engage 65 = .ok (.putfield 128, 3) := by decide +kernel
theorem dX4_engage_68 : decode cX4_engage 68 = .ok (.iload 4, 2) := by decide +kernel
theorem dX4_engage_70 : decode cX4_engage 70 = .ok (.ireturn, 1) := by decide +kernel
theorem dX4_pin_0 : decode cX4_pin 0 = .ok (.aload_n 0, 1) := by decide +kernel
theorem dX4_pin_1 : decode cX4_pin 1 = .ok (.iload_n 1, 1) := by decide +kernel
theorem dX4_pin_2 : decode cX4_pin 2 = .ok (.invokevirtual 122, 3) := by decide +kernel
theorem dX4_pin_5 : decode cX4_pin 5 = .ok (.astore 4, 2) := by decide +kernel
theorem dX4_pin_7 : decode cX4_pin 7 = .ok (.aload 4, 2) := by decide +kernel
theorem dX4_pin_9 : decode cX4_pin 9 = .ok (.ifnonnull 13, 3) := by decide +kernel
theorem dX4_pin_12 : decode cX4_pin 12 = .ok (.new 55, 3) := by decide +kernel
theorem dX4_pin_15 : decode cX4_pin 15 = .ok (.dup, 1) := by decide +kernel
theorem dX4_pin_16 : decode cX4_pin 16 = .ok (.ldc 126, 2) := by decide +kernel
theorem dX4_pin_18 : decode cX4_pin 18 = .ok (.invokespecial 59, 3) := by decide +kernel
theorem dX4_pin_21 : decode cX4_pin 21 = .ok (.athrow, 1) := by decide +kernel
theorem dX4_pin_22 : decode cX4_pin 22 = .ok (.aload 4, 2) := by decide +kernel
theorem dX4_pin_24 : decode cX4_pin 24 = .ok (.iload_n 2, 1) := by decide +kernel
theorem dX4_pin_25 : decode cX4_pin 25 = .ok (.invokevirtual 138, 3) := by decide +kernel
theorem dX4_pin_28 : decode cX4_pin 28 = .ok (.ifCond .ne 13, 3) := by decide +kernel
theorem dX4_pin_31 : decode cX4_pin 31 = .ok (.new 32, 3) := by decide +kernel
theorem dX4_pin_34 : decode cX4_pin 34 = .ok (.dup, 1) := by decide +kernel
theorem dX4_pin_35 : decode cX4_pin 35 = .ok (.ldc 142, 2) := by decide +kernel
theorem dX4_pin_37 : decode cX4_pin 37 = .ok (.invokespecial 36, 3) := by decide +kernel
theorem dX4_pin_40 : decode cX4_pin 40 = .ok (.athrow, 1) := by decide +kernel
theorem dX4_pin_41 : decode cX4_pin 41 = .ok (.iload_n 3, 1) := by decide +kernel
theorem dX4_pin_42 : decode cX4_pin 42 = .ok (.iconst 0, 1) := by decide +kernel
theorem dX4_pin_43 : decode cX4_pin 43 = .ok (.iconst 5, 1) := by decide +kernel
theorem dX4_pin_44 : decode cX4_pin 44 = .ok (.invokestatic 28, 3) := by decide +kernel
theorem dX4_pin_47 : decode cX4_pin 47 = .ok (.ifCond .ne 13, 3) := by decide +kernel
theorem dX4_pin_50 : decode cX4_pin 50 = .ok (.new 32, 3) := by decide +kernel
theorem dX4_pin_53 : decode cX4_pin 53 = .ok (.dup, 1) := by decide +kernel
theorem dX4_pin_54 : decode cX4_pin 54 = .ok (.ldc 144, 2) := by decide +kernel
theorem dX4_pin_56 : decode cX4_pin 56 = .ok (.invokespecial 36, 3) := by decide +kernel
theorem dX4_pin_59 : decode cX4_pin 59 = .ok (.athrow, 1) := by decide +kernel
theorem dX4_pin_60 : decode cX4_pin 60 = .ok (.aload 4, 2) := by decide +kernel
theorem dX4_pin_62 : decode cX4_pin 62 = .ok (.iload_n 2, 1) := by decide +kernel
theorem dX4_pin_63 : decode cX4_pin 63 = .ok (.iload_n 3, 1) := by decide +kernel
theorem dX4_pin_64 : decode cX4_pin 64 = .ok (.invokevirtual 146, 3) := by decide +kernel
theorem dX4_pin_67 : decode cX4_pin 67 = .ok (.ifCond .ne 23, 3) := by decide +kernel
theorem dX4_pin_70 : decode cX4_pin 70 = .ok (.aload 4, 2) := by decide +kernel
theorem dX4_pin_72 : decode cX4_pin 72 = .ok (.getfield 150, 3) := by decide +kernel
theorem dX4_pin_75 : decode cX4_pin 75 = .ok (.bipush 24, 2) := by decide +kernel
theorem dX4_pin_77 : decode cX4_pin 77 = .ok (.if_icmp .lt 13, 3) := by decide +kernel
theorem dX4_pin_80 : decode cX4_pin 80 = .ok (.new 43, 3) := by decide +kernel
theorem dX4_pin_83 : decode cX4_pin 83 = .ok (.dup, 1) := by decide +kernel
theorem dX4_pin_84 : decode cX4_pin 84 = .ok (.ldc 153, 2) := by decide +kernel
theorem dX4_pin_86 : decode cX4_pin 86 = .ok (.invokespecial 47, 3) := by decide +kernel
theorem dX4_pin_89 : decode cX4_pin 89 = .ok (.athrow, 1) := by decide +kernel
theorem dX4_pin_90 : decode cX4_pin 90 = .ok (.aload 4, 2) := by decide +kernel
theorem dX4_pin_92 : decode cX4_pin 92 = .ok (.iload_n 2, 1) := by decide +kernel
theorem dX4_pin_93 : decode cX4_pin 93 = .ok (.iload_n 3, 1) := by decide +kernel
theorem dX4_pin_94 : decode cX4_pin 94 = .ok (.invokevirtual 155, 3) := by decide +kernel
theorem dX4_pin_97 : decode cX4_pin 97 = .ok (.aload 4, 2) := by decide +kernel
theorem dX4_pin_99 : decode cX4_pin 99 = .ok (.getfield 150, 3) := by decide +kernel
theorem dX4_pin_102 : decode cX4_pin 102 = .ok (.ireturn, 1) := by decide +kernel
theorem dX4_tune_0 : decode cX4_tune 0 = .ok (.aload_n 0, 1) := by decide +kernel
theorem dX4_tune_1 : decode cX4_tune 1 = .ok (.iload_n 1, 1) := by decide +kernel
theorem dX4_tune_2 : decode cX4_tune 2 = .ok (.invokevirtual 122, 3) := by decide +kernel
theorem dX4_tune_5 : decode cX4_tune 5 = .ok (.astore 4, 2) := by decide +kernel
theorem dX4_tune_7 : decode cX4_tune 7 = .ok (.aload 4, 2) := by decide +kernel
theorem dX4_tune_9 : decode cX4_tune 9 = .ok (.ifnonnull 13, 3) := by decide +kernel
theorem dX4_tune_12 : decode cX4_tune 12 = .ok (.new 55, 3) := by decide +kernel
theorem dX4_tune_15 : decode cX4_tune 15 = .ok (.dup, 1) := by decide +kernel
theorem dX4_tune_16 : decode cX4_tune 16 = .ok (.ldc 126, 2) := by decide +kernel
theorem dX4_tune_18 : decode cX4_tune 18 = .ok (.invokespecial 59, 3) := by decide +kernel
theorem dX4_tune_21 : decode cX4_tune 21 = .ok (.athrow, 1) := by decide +kernel
theorem dX4_tune_22 : decode cX4_tune 22 = .ok (.iload_n 2, 1) := by decide +kernel
theorem dX4_tune_23 : decode cX4_tune 23 = .ok (.iconst 0, 1) := by decide +kernel
theorem dX4_tune_24 : decode cX4_tune 24 = .ok (.iconst 5, 1) := by decide +kernel
theorem dX4_tune_25 : decode cX4_tune 25 = .ok (.invokestatic 28, 3) := by decide +kernel
theorem dX4_tune_28 : decode cX4_tune 28 = .ok (.ifCond .ne 13, 3) := by decide +kernel
theorem dX4_tune_31 : decode cX4_tune 31 = .ok (.new 55, 3) := by decide +kernel
theorem dX4_tune_34 : decode cX4_tune 34 = .ok (.dup, 1) := by decide +kernel
theorem dX4_tune_35 : decode cX4_tune 35 = .ok (.ldc 144, 2) := by decide +kernel
theorem dX4_tune_37 : decode cX4_tune 37 = .ok (.invokespecial 59, 3) := by decide +kernel
theorem dX4_tune_40 : decode cX4_tune 40 = .ok (.athrow, 1) := by decide +kernel
theorem dX4_tune_41 : decode cX4_tune 41 = .ok (.iload_n 3, 1) := by decide +kernel
theorem dX4_tune_42 : decode cX4_tune 42 = .ok (.iconst 0, 1) := by decide +kernel
theorem dX4_tune_43 : decode cX4_tune 43 = .ok (.bipush 87, 2) := by decide +kernel
theorem dX4_tune_45 : decode cX4_tune 45 = .ok (.invokestatic 28, 3) := by decide +kernel
theorem dX4_tune_48 : decode cX4_tune 48 = .ok (.ifCond .ne 13, 3) := by decide +kernel
theorem dX4_tune_51 : decode cX4_tune 51 = .ok (.new 32, 3) := by decide +kernel
theorem dX4_tune_54 : decode cX4_tune 54 = .ok (.dup, 1) := by decide +kernel
theorem dX4_tune_55 : decode cX4_tune 55 = .ok (.ldc 159, 2) := by decide +kernel
theorem dX4_tune_57 : decode cX4_tune 57 = .ok (.invokespecial 36, 3) := by decide +kernel
theorem dX4_tune_60 : decode cX4_tune 60 = .ok (.athrow, 1) := by decide +kernel
theorem dX4_tune_61 : decode cX4_tune 61 = .ok (.aload 4, 2) := by decide +kernel
theorem dX4_tune_63 : decode cX4_tune 63 = .ok (.getfield 161, 3) := by decide +kernel
theorem dX4_tune_66 : decode cX4_tune 66 = .ok (.iload_n 2, 1) := by decide +kernel
theorem dX4_tune_67 : decode cX4_tune 67 = .ok (.invokestatic 165, 3) := by decide +kernel
theorem dX4_tune_70 : decode cX4_tune 70 = .ok (.istore 5, 2) := by decide +kernel
theorem dX4_tune_72 : decode cX4_tune 72 = .ok (.aload 4, 2) := by decide +kernel
theorem dX4_tune_74 : decode cX4_tune 74 = .ok (.getfield 161, 3) := by decide +kernel
theorem dX4_tune_77 : decode cX4_tune 77 = .ok (.iload_n 2, 1) := by decide +kernel
theorem dX4_tune_78 : decode cX4_tune 78 = .ok (.iload_n 3, 1) := by decide +kernel
theorem dX4_tune_79 : decode cX4_tune 79 = .ok (.invokestatic 169, 3) := by decide +kernel
theorem dX4_tune_82 : decode cX4_tune 82 = .ok (.iload 5, 2) := by decide +kernel
theorem dX4_tune_84 : decode cX4_tune 84 = .ok (.ireturn, 1) := by decide +kernel
theorem dX4_point_0 : decode cX4_point 0 = .ok (.aload_n 0, 1) := by decide +kernel
theorem dX4_point_1 : decode cX4_point 1 = .ok (.iload_n 1, 1) := by decide +kernel
theorem dX4_point_2 : decode cX4_point 2 = .ok (.invokevirtual 122, 3) := by decide +kernel
theorem dX4_point_5 : decode cX4_point 5 = .ok (.astore 5, 2) := by decide +kernel
theorem dX4_point_7 : decode cX4_point 7 = .ok (.aload 5, 2) := by decide +kernel
theorem dX4_point_9 : decode cX4_point 9 = .ok (.ifnonnull 7, 3) := by decide +kernel
theorem dX4_point_12 : decode cX4_point 12 = .ok (.aconst_null, 1) := by decide +kernel
theorem dX4_point_13 : decode cX4_point 13 = .ok (.goto 9, 3) := by decide +kernel
theorem dX4_point_16 : decode cX4_point 16 = .ok (.aload 5, 2) := by decide +kernel
theorem dX4_point_18 : decode cX4_point 18 = .ok (.iload_n 2, 1) := by decide +kernel
theorem dX4_point_19 : decode cX4_point 19 = .ok (.invokevirtual 173, 3) := by decide +kernel
theorem dX4_point_22 : decode cX4_point 22 = .ok (.astore 6, 2) := by decide +kernel
theorem dX4_point_24 : decode cX4_point 24 = .ok (.aload 5, 2) := by decide +kernel
theorem dX4_point_26 : decode cX4_point 26 = .ok (.ifnull 8, 3) := by decide +kernel
theorem dX4_point_29 : decode cX4_point 29 = .ok (.aload 6, 2) := by decide +kernel
theorem dX4_point_31 : decode cX4_point 31 = .ok (.ifnonnull 13, 3) := by decide +kernel
theorem dX4_point_34 : decode cX4_point 34 = .ok (.new 55, 3) := by decide +kernel
theorem dX4_point_37 : decode cX4_point 37 = .ok (.dup, 1) := by decide +kernel
theorem dX4_point_38 : decode cX4_point 38 = .ok (.ldc 177, 2) := by decide +kernel
theorem dX4_point_40 : decode cX4_point 40 = .ok (.invokespecial 59, 3) := by decide +kernel
theorem dX4_point_43 : decode cX4_point 43 = .ok (.athrow, 1) := by decide +kernel
theorem dX4_point_44 : decode cX4_point 44 = .ok (.aload 5, 2) := by decide +kernel
theorem dX4_point_46 : decode cX4_point 46 = .ok (.iload_n 3, 1) := by decide +kernel
theorem dX4_point_47 : decode cX4_point 47 = .ok (.invokevirtual 138, 3) := by decide +kernel
theorem dX4_point_50 : decode cX4_point 50 = .ok (.ifCond .ne 13, 3) := by decide +kernel
theorem dX4_point_53 : decode cX4_point 53 = .ok (.new 32, 3) := by decide +kernel
theorem dX4_point_56 : decode cX4_point 56 = .ok (.dup, 1) := by decide +kernel
theorem dX4_point_57 : decode cX4_point 57 = .ok (.ldc 142, 2) := by decide +kernel
theorem dX4_point_59 : decode cX4_point 59 = .ok (.invokespecial 36, 3) := by decide +kernel
theorem dX4_point_62 : decode cX4_point 62 = .ok (.athrow, 1) := by decide +kernel
theorem dX4_point_63 : decode cX4_point 63 = .ok (.iload 4, 2) := by decide +kernel
theorem dX4_point_65 : decode cX4_point 65 = .ok (.iconst (-1), 1) := by decide +kernel
theorem dX4_point_66 : decode cX4_point 66 = .ok (.bipush 100, 2) := by decide +kernel
theorem dX4_point_68 : decode cX4_point 68 = .ok (.invokestatic 28, 3) := by decide +kernel
theorem dX4_point_71 : decode cX4_point 71 = .ok (.ifCond .ne 13, 3) := by decide +kernel
theorem dX4_point_74 : decode cX4_point 74 = .ok (.new 32, 3) := by decide +kernel
theorem dX4_point_77 : decode cX4_point 77 = .ok (.dup, 1) := by decide +kernel
theorem dX4_point_78 : decode cX4_point 78 = .ok (.ldc 179, 2) := by decide +kernel
theorem dX4_point_80 : decode cX4_point 80 = .ok (.invokespecial 36, 3) := by decide +kernel
theorem dX4_point_83 : decode cX4_point 83 = .ok (.athrow, 1) := by decide +kernel
theorem dX4_point_84 : decode cX4_point 84 = .ok (.aload 6, 2) := by decide +kernel
theorem dX4_point_86 : decode cX4_point 86 = .ok (.iload_n 3, 1) := by decide +kernel
theorem dX4_point_87 : decode cX4_point 87 = .ok (.invokevirtual 181, 3) := by decide +kernel
theorem dX4_point_90 : decode cX4_point 90 = .ok (.istore 7, 2) := by decide +kernel
theorem dX4_point_92 : decode cX4_point 92 = .ok (.iload 4, 2) := by decide +kernel
theorem dX4_point_94 : decode cX4_point 94 = .ok (.iconst (-1), 1) := by decide +kernel
theorem dX4_point_95 : decode cX4_point 95 = .ok (.if_icmp .ne 18, 3) := by decide +kernel
theorem dX4_point_98 : decode cX4_point 98 = .ok (.iload 7, 2) := by decide +kernel
theorem dX4_point_100 : decode cX4_point 100 = .ok (.ifCond .ne 13, 3) := by decide +kernel
theorem dX4_point_103 : decode cX4_point 103 = .ok (.new 43, 3) := by decide +kernel
theorem dX4_point_106 : decode cX4_point 106 = .ok (.dup, 1) := by decide +kernel
theorem dX4_point_107 : decode cX4_point 107 = .ok (.ldc 186, 2) := by decide +kernel
theorem dX4_point_109 : decode cX4_point 109 = .ok (.invokespecial 47, 3) := by decide +kernel
theorem dX4_point_112 : decode cX4_point 112 = .ok (.athrow, 1) := by decide +kernel
theorem dX4_point_113 : decode cX4_point 113 = .ok (.iload 7, 2) := by decide +kernel
theorem dX4_point_115 : decode cX4_point 115 = .ok (.ifCond .ne 23, 3) := by decide +kernel
theorem dX4_point_118 : decode cX4_point 118 = .ok (.aload 6, 2) := by decide +kernel
theorem dX4_point_120 : decode cX4_point 120 = .ok (.getfield 188, 3) := by decide +kernel
theorem dX4_point_123 : decode cX4_point 123 = .ok (.bipush 8, 2) := by decide +kernel
theorem dX4_point_125 : decode cX4_point 125 = .ok (.if_icmp .lt 13, 3) := by decide +kernel
theorem dX4_point_128 : decode cX4_point 128 = .ok (.new 43, 3) := by decide +kernel
theorem dX4_point_131 : decode cX4_point 131 = .ok (.dup, 1) := by decide +kernel
theorem dX4_point_132 : decode cX4_point 132 = .ok (.ldc 191, 2) := by decide +kernel
theorem dX4_point_134 : decode cX4_point 134 = .ok (.invokespecial 47, 3) := by decide +kernel
theorem dX4_point_137 : decode cX4_point 137 = .ok (.athrow, 1) := by decide +kernel
theorem dX4_point_138 : decode cX4_point 138 = .ok (.iload 4, 2) := by decide +kernel
theorem dX4_point_140 : decode cX4_point 140 = .ok (.iconst (-1), 1) := by decide +kernel
theorem dX4_point_141 : decode cX4_point 141 = .ok (.if_icmp .ne 17, 3) := by decide +kernel
theorem dX4_point_144 : decode cX4_point 144 = .ok (.aload 6, 2) := by decide +kernel
theorem dX4_point_146 : decode cX4_point 146 = .ok (.iload_n 3, 1) := by decide +kernel
theorem dX4_point_147 : decode cX4_point 147 = .ok (.aload 5, 2) := by decide +kernel
theorem dX4_point_149 : decode cX4_point 149 = .ok (.getfield 193, 3) := by decide +kernel
theorem dX4_point_152 : decode cX4_point 152 = .ok (.invokevirtual 196, 3) := by decide +kernel
theorem dX4_point_155 : decode cX4_point 155 = .ok (.goto 16, 3) := by decide +kernel
theorem dX4_point_158 : decode cX4_point 158 = .ok (.aload 6, 2) := by decide +kernel
theorem dX4_point_160 : decode cX4_point 160 = .ok (.iload_n 3, 1) := by decide +kernel
theorem dX4_point_161 : decode cX4_point 161 = .ok (.iload 4, 2) := by decide +kernel
theorem dX4_point_163 : decode cX4_point 163 = .ok (.aload 5, 2) := by decide +kernel
theorem dX4_point_165 : decode cX4_point 165 = .ok (.getfield 193, 3) := by decide +kernel
theorem dX4_point_168 : decode cX4_point 168 = .ok (.invokevirtual 199, 3) := by decide +kernel
theorem dX4_point_171 : decode cX4_point 171 = .ok (.aload 6, 2) := by decide +kernel
theorem dX4_point_173 : decode cX4_point 173 = .ok (.getfield 188, 3) := by decide +kernel
theorem dX4_point_176 : decode cX4_point 176 = .ok (.ireturn, 1) := by decide +kernel
theorem dX4_bird_0 : decode cX4_bird 0 = .ok (.aload_n 0, 1) := by decide +kernel
theorem dX4_bird_1 : decode cX4_bird 1 = .ok (.iload_n 1, 1) := by decide +kernel
theorem dX4_bird_2 : decode cX4_bird 2 = .ok (.invokevirtual 122, 3) := by decide +kernel
theorem dX4_bird_5 : decode cX4_bird 5 = .ok (.astore_n 3, 1) := by decide +kernel
theorem dX4_bird_6 : decode cX4_bird 6 = .ok (.aload_n 3, 1) := by decide +kernel
theorem dX4_bird_7 : decode cX4_bird 7 = .ok (.ifnonnull 13, 3) := by decide +kernel
theorem dX4_bird_10 : decode cX4_bird 10 = .ok (.new 55, 3) := by decide +kernel
theorem dX4_bird_13 : decode cX4_bird 13 = .ok (.dup, 1) := by decide +kernel
theorem dX4_bird_14 : decode cX4_bird 14 = .ok (.ldc 126, 2) := by decide +kernel
theorem dX4_bird_16 : decode cX4_bird 16 = .ok (.invokespecial 59, 3) := by decide +kernel
theorem dX4_bird_19 : decode cX4_bird 19 = .ok (.athrow, 1) := by decide +kernel
theorem dX4_bird_20 : decode cX4_bird 20 = .ok (.iload_n 2, 1) := by decide +kernel
theorem dX4_bird_21 : decode cX4_bird 21 = .ok (.tableswitch 114 0 9 #[55, 60, 65, 70, 75, 80, 85, 98, 103, 109], 55) := by decide +kernel
theorem dX4_bird_76 : decode cX4_bird 76 = .ok (.aload_n 3, 1) := by decide +kernel
theorem dX4_bird_77 : decode cX4_bird 77 = .ok (.getfield 131, 3) := by decide +kernel
theorem dX4_bird_80 : decode cX4_bird 80 = .ok (.ireturn, 1) := by decide +kernel
theorem dX4_bird_81 : decode cX4_bird 81 = .ok (.aload_n 3, 1) := by decide +kernel
theorem dX4_bird_82 : decode cX4_bird 82 = .ok (.getfield 203, 3) := by decide +kernel
theorem dX4_bird_85 : decode cX4_bird 85 = .ok (.ireturn, 1) := by decide +kernel
theorem dX4_bird_86 : decode cX4_bird 86 = .ok (.aload_n 3, 1) := by decide +kernel
theorem dX4_bird_87 : decode cX4_bird 87 = .ok (.getfield 193, 3) := by decide +kernel
theorem dX4_bird_90 : decode cX4_bird 90 = .ok (.ireturn, 1) := by decide +kernel
theorem dX4_bird_91 : decode cX4_bird 91 = .ok (.aload_n 3, 1) := by decide +kernel
theorem dX4_bird_92 : decode cX4_bird 92 = .ok (.getfield 206, 3) := by decide +kernel
theorem dX4_bird_95 : decode cX4_bird 95 = .ok (.ireturn, 1) := by decide +kernel
theorem dX4_bird_96 : decode cX4_bird 96 = .ok (.aload_n 3, 1) := by decide +kernel
theorem dX4_bird_97 : decode cX4_bird 97 = .ok (.getfield 209, 3) := by decide +kernel
theorem dX4_bird_100 : decode cX4_bird 100 = .ok (.ireturn, 1) := by decide +kernel
theorem dX4_bird_101 : decode cX4_bird 101 = .ok (.aload_n 3, 1) := by decide +kernel
theorem dX4_bird_102 : decode cX4_bird 102 = .ok (.invokevirtual 212, 3) := by decide +kernel
theorem dX4_bird_105 : decode cX4_bird 105 = .ok (.ireturn, 1) := by decide +kernel
theorem dX4_bird_106 : decode cX4_bird 106 = .ok (.aload_n 3, 1) := by decide +kernel
theorem dX4_bird_107 : decode cX4_bird 107 = .ok (.getfield 128, 3) := by decide +kernel
theorem dX4_bird_110 : decode cX4_bird 110 = .ok (.ifCond .eq 7, 3) := by decide +kernel
theorem dX4_bird_113 : decode cX4_bird 113 = .ok (.iconst 1, 1) := by decide +kernel
theorem dX4_bird_114 : decode cX4_bird 114 = .ok (.goto 4, 3) := by decide +kernel
theorem dX4_bird_117 : decode cX4_bird 117 = .ok (.iconst 0, 1) := by decide +kernel
theorem dX4_bird_118 : decode cX4_bird 118 = .ok (.ireturn, 1) := by decide +kernel
theorem dX4_bird_119 : decode cX4_bird 119 = .ok (.aload_n 3, 1) := by decide +kernel
theorem dX4_bird_120 : decode cX4_bird 120 = .ok (.getfield 150, 3) := by decide +kernel
theorem dX4_bird_123 : decode cX4_bird 123 = .ok (.ireturn, 1) := by decide +kernel
theorem dX4_bird_124 : decode cX4_bird 124 = .ok (.aload_n 3, 1) := by decide +kernel
theorem dX4_bird_125 : decode cX4_bird 125 = .ok (.getfield 216, 3) := by decide +kernel
theorem dX4_bird_128 : decode cX4_bird 128 = .ok (.l2i, 1) := by decide +kernel
theorem dX4_bird_129 : decode cX4_bird 129 = .ok (.ireturn, 1) := by decide +kernel
theorem dX4_bird_130 : decode cX4_bird 130 = .ok (.aload_n 3, 1) := by decide +kernel
theorem dX4_bird_131 : decode cX4_bird 131 = .ok (.getfield 219, 3) := by decide +kernel
theorem dX4_bird_134 : decode cX4_bird 134 = .ok (.ireturn, 1) := by decide +kernel
theorem dX4_bird_135 : decode cX4_bird 135 = .ok (.new 55, 3) := by decide +kernel
theorem dX4_bird_138 : decode cX4_bird 138 = .ok (.dup, 1) := by decide +kernel
theorem dX4_bird_139 : decode cX4_bird 139 = .ok (.ldc 222, 2) := by decide +kernel
theorem dX4_bird_141 : decode cX4_bird 141 = .ok (.invokespecial 59, 3) := by decide +kernel
theorem dX4_bird_144 : decode cX4_bird 144 = .ok (.athrow, 1) := by decide +kernel
theorem dX4_lift_0 : decode cX4_lift 0 = .ok (.aload_n 0, 1) := by decide +kernel
theorem dX4_lift_1 : decode cX4_lift 1 = .ok (.iload_n 1, 1) := by decide +kernel
theorem dX4_lift_2 : decode cX4_lift 2 = .ok (.invokevirtual 122, 3) := by decide +kernel
theorem dX4_lift_5 : decode cX4_lift 5 = .ok (.astore 4, 2) := by decide +kernel
theorem dX4_lift_7 : decode cX4_lift 7 = .ok (.aload 4, 2) := by decide +kernel
theorem dX4_lift_9 : decode cX4_lift 9 = .ok (.ifnonnull 7, 3) := by decide +kernel
theorem dX4_lift_12 : decode cX4_lift 12 = .ok (.aconst_null, 1) := by decide +kernel
theorem dX4_lift_13 : decode cX4_lift 13 = .ok (.goto 9, 3) := by decide +kernel
theorem dX4_lift_16 : decode cX4_lift 16 = .ok (.aload 4, 2) := by decide +kernel
theorem dX4_lift_18 : decode cX4_lift 18 = .ok (.iload_n 2, 1) := by decide +kernel
theorem dX4_lift_19 : decode cX4_lift 19 = .ok (.invokevirtual 173, 3) := by decide +kernel
theorem dX4_lift_22 : decode cX4_lift 22 = .ok (.astore 5, 2) := by decide +kernel
theorem dX4_lift_24 : decode cX4_lift 24 = .ok (.aload 4, 2) := by decide +kernel
theorem dX4_lift_26 : decode cX4_lift 26 = .ok (.ifnull 8, 3) := by decide +kernel
theorem dX4_lift_29 : decode cX4_lift 29 = .ok (.aload 5, 2) := by decide +kernel
theorem dX4_lift_31 : decode cX4_lift 31 = .ok (.ifnonnull 13, 3) := by decide +kernel
theorem dX4_lift_34 : decode cX4_lift 34 = .ok (.new 55, 3) := by decide +kernel
theorem dX4_lift_37 : decode cX4_lift 37 = .ok (.dup, 1) := by decide +kernel
theorem dX4_lift_38 : decode cX4_lift 38 = .ok (.ldc 177, 2) := by decide +kernel
theorem dX4_lift_40 : decode cX4_lift 40 = .ok (.invokespecial 59, 3) := by decide +kernel
theorem dX4_lift_43 : decode cX4_lift 43 = .ok (.athrow, 1) := by decide +kernel
theorem dX4_lift_44 : decode cX4_lift 44 = .ok (.iload_n 3, 1) := by decide +kernel
theorem dX4_lift_45 : decode cX4_lift 45 = .ok (.iconst (-1), 1) := by decide +kernel
theorem dX4_lift_46 : decode cX4_lift 46 = .ok (.if_icmp .eq 22, 3) := by decide +kernel
theorem dX4_lift_49 : decode cX4_lift 49 = .ok (.aload 4, 2) := by decide +kernel
theorem dX4_lift_51 : decode cX4_lift 51 = .ok (.iload_n 3, 1) := by decide +kernel
theorem dX4_lift_52 : decode cX4_lift 52 = .ok (.invokevirtual 138, 3) := by decide +kernel
theorem dX4_lift_55 : decode cX4_lift 55 = .ok (.ifCond .ne 13, 3) := by decide +kernel
theorem dX4_lift_58 : decode cX4_lift 58 = .ok (.new 32, 3) := by decide +kernel
theorem dX4_lift_61 : decode cX4_lift 61 = .ok (.dup, 1) := by decide +kernel
theorem dX4_lift_62 : decode cX4_lift 62 = .ok (.ldc 224, 2) := by decide +kernel
theorem dX4_lift_64 : decode cX4_lift 64 = .ok (.invokespecial 36, 3) := by decide +kernel
theorem dX4_lift_67 : decode cX4_lift 67 = .ok (.athrow, 1) := by decide +kernel
theorem dX4_lift_68 : decode cX4_lift 68 = .ok (.aload 5, 2) := by decide +kernel
theorem dX4_lift_70 : decode cX4_lift 70 = .ok (.getfield 226, 3) := by decide +kernel
theorem dX4_lift_73 : decode cX4_lift 73 = .ok (.iload_n 3, 1) := by decide +kernel
theorem dX4_lift_74 : decode cX4_lift 74 = .ok (.iconst (-1), 1) := by decide +kernel
theorem dX4_lift_75 : decode cX4_lift 75 = .ok (.if_icmp .ne 11, 3) := by decide +kernel
theorem dX4_lift_78 : decode cX4_lift 78 = .ok (.aload 4, 2) := by decide +kernel
theorem dX4_lift_80 : decode cX4_lift 80 = .ok (.invokevirtual 212, 3) := by decide +kernel
theorem dX4_lift_83 : decode cX4_lift 83 = .ok (.goto 4, 3) := by decide +kernel
theorem dX4_lift_86 : decode cX4_lift 86 = .ok (.iload_n 3, 1) := by decide +kernel
theorem dX4_lift_87 : decode cX4_lift 87 = .ok (.invokestatic 165, 3) := by decide +kernel
theorem dX4_lift_90 : decode cX4_lift 90 = .ok (.ireturn, 1) := by decide +kernel
theorem dX4_run_0 : decode cX4_run 0 = .ok (.iload_n 1, 1) := by decide +kernel
theorem dX4_run_1 : decode cX4_run 1 = .ok (.iconst 1, 1) := by decide +kernel
theorem dX4_run_2 : decode cX4_run 2 = .ok (.sipush 500, 3) := by decide +kernel
theorem dX4_run_5 : decode cX4_run 5 = .ok (.invokestatic 28, 3) := by decide +kernel
theorem dX4_run_8 : decode cX4_run 8 = .ok (.ifCond .ne 13, 3) := by decide +kernel
theorem dX4_run_11 : decode cX4_run 11 = .ok (.new 32, 3) := by decide +kernel
theorem dX4_run_14 : decode cX4_run 14 = .ok (.dup, 1) := by decide +kernel
theorem dX4_run_15 : decode cX4_run 15 = .ok (.ldc 229, 2) := by decide +kernel
theorem dX4_run_17 : decode cX4_run 17 = .ok (.invokespecial 36, 3) := by decide +kernel
theorem dX4_run_20 : decode cX4_run 20 = .ok (.athrow, 1) := by decide +kernel
theorem dX4_run_21 : decode cX4_run 21 = .ok (.iconst 0, 1) := by decide +kernel
theorem dX4_run_22 : decode cX4_run 22 = .ok (.istore_n 2, 1) := by decide +kernel
theorem dX4_run_23 : decode cX4_run 23 = .ok (.iconst 0, 1) := by decide +kernel
theorem dX4_run_24 : decode cX4_run 24 = .ok (.istore_n 3, 1) := by decide +kernel
theorem dX4_run_25 : decode cX4_run 25 = .ok (.iload_n 3, 1) := by decide +kernel
theorem dX4_run_26 : decode cX4_run 26 = .ok (.iload_n 1, 1) := by decide +kernel
theorem dX4_run_27 : decode cX4_run 27 = .ok (.if_icmp .ge 16, 3) := by decide +kernel
theorem dX4_run_30 : decode cX4_run 30 = .ok (.iload_n 2, 1) := by decide +kernel
theorem dX4_run_31 : decode cX4_run 31 = .ok (.aload_n 0, 1) := by decide +kernel
theorem dX4_run_32 : decode cX4_run 32 = .ok (.invokevirtual 231, 3) := by decide +kernel
theorem dX4_run_35 : decode cX4_run 35 = .ok (.iadd, 1) := by decide +kernel
theorem dX4_run_36 : decode cX4_run 36 = .ok (.istore_n 2, 1) := by decide +kernel
theorem dX4_run_37 : decode cX4_run 37 = .ok (.iinc 3 1, 3) := by decide +kernel
theorem dX4_run_40 : decode cX4_run 40 = .ok (.goto (-15), 3) := by decide +kernel
theorem dX4_run_43 : decode cX4_run 43 = .ok (.iload_n 2, 1) := by decide +kernel
theorem dX4_run_44 : decode cX4_run 44 = .ok (.ireturn, 1) := by decide +kernel
theorem dX4_count_0 : decode cX4_count 0 = .ok (.iload_n 1, 1) := by decide +kernel
theorem dX4_count_1 : decode cX4_count 1 = .ok (.tableswitch 75 0 5 #[39, 44, 49, 54, 62, 70], 39) := by decide +kernel
theorem dX4_count_40 : decode cX4_count 40 = .ok (.aload_n 0, 1) := by decide +kernel
theorem dX4_count_41 : decode cX4_count 41 = .ok (.getfield 234, 3) := by decide +kernel
theorem dX4_count_44 : decode cX4_count 44 = .ok (.ireturn, 1) := by decide +kernel
theorem dX4_count_45 : decode cX4_count 45 = .ok (.aload_n 0, 1) := by decide +kernel
theorem dX4_count_46 : decode cX4_count 46 = .ok (.getfield 39, 3) := by decide +kernel
theorem dX4_count_49 : decode cX4_count 49 = .ok (.ireturn, 1) := by decide +kernel
theorem dX4_count_50 : decode cX4_count 50 = .ok (.aload_n 0, 1) := by decide +kernel
theorem dX4_count_51 : decode cX4_count 51 = .ok (.getfield 114, 3) := by decide +kernel
theorem dX4_count_54 : decode cX4_count 54 = .ok (.ireturn, 1) := by decide +kernel
theorem dX4_count_55 : decode cX4_count 55 = .ok (.aload_n 0, 1) := by decide +kernel
theorem dX4_count_56 : decode cX4_count 56 = .ok (.getfield 81, 3) := by decide +kernel
theorem dX4_count_59 : decode cX4_count 59 = .ok (.invokestatic 84, 3) := by decide +kernel
theorem dX4_count_62 : decode cX4_count 62 = .ok (.ireturn, 1) := by decide +kernel
theorem dX4_count_63 : decode cX4_count 63 = .ok (.aload_n 0, 1) := by decide +kernel
theorem dX4_count_64 : decode cX4_count 64 = .ok (.getfield 24, 3) := by decide +kernel
theorem dX4_count_67 : decode cX4_count 67 = .ok (.getfield 237, 3) := by decide +kernel
theorem dX4_count_70 : decode cX4_count 70 = .ok (.ireturn, 1) := by decide +kernel
theorem dX4_count_71 : decode cX4_count 71 = .ok (.aload_n 0, 1) := by decide +kernel
theorem dX4_count_72 : decode cX4_count 72 = .ok (.invokevirtual 240, 3) := by decide +kernel
theorem dX4_count_75 : decode cX4_count 75 = .ok (.ireturn, 1) := by decide +kernel
theorem dX4_count_76 : decode cX4_count 76 = .ok (.new 55, 3) := by decide +kernel
theorem dX4_count_79 : decode cX4_count 79 = .ok (.dup, 1) := by decide +kernel
theorem dX4_count_80 : decode cX4_count 80 = .ok (.ldc 243, 2) := by decide +kernel
theorem dX4_count_82 : decode cX4_count 82 = .ok (.invokespecial 59, 3) := by decide +kernel
theorem dX4_count_85 : decode cX4_count 85 = .ok (.athrow, 1) := by decide +kernel
theorem dX4_sung_0 : decode cX4_sung 0 = .ok (.iload_n 1, 1) := by decide +kernel
theorem dX4_sung_1 : decode cX4_sung 1 = .ok (.iconst 0, 1) := by decide +kernel
theorem dX4_sung_2 : decode cX4_sung 2 = .ok (.aload_n 0, 1) := by decide +kernel
theorem dX4_sung_3 : decode cX4_sung 3 = .ok (.getfield 24, 3) := by decide +kernel
theorem dX4_sung_6 : decode cX4_sung 6 = .ok (.getfield 245, 3) := by decide +kernel
theorem dX4_sung_9 : decode cX4_sung 9 = .ok (.iconst 1, 1) := by decide +kernel
theorem dX4_sung_10 : decode cX4_sung 10 = .ok (.isub, 1) := by decide +kernel
theorem dX4_sung_11 : decode cX4_sung 11 = .ok (.invokestatic 28, 3) := by decide +kernel
theorem dX4_sung_14 : decode cX4_sung 14 = .ok (.ifCond .ne 13, 3) := by decide +kernel
theorem dX4_sung_17 : decode cX4_sung 17 = .ok (.new 55, 3) := by decide +kernel
theorem dX4_sung_20 : decode cX4_sung 20 = .ok (.dup, 1) := by decide +kernel
theorem dX4_sung_21 : decode cX4_sung 21 = .ok (.ldc 248, 2) := by decide +kernel
theorem dX4_sung_23 : decode cX4_sung 23 = .ok (.invokespecial 59, 3) := by decide +kernel
theorem dX4_sung_26 : decode cX4_sung 26 = .ok (.athrow, 1) := by decide +kernel
theorem dX4_sung_27 : decode cX4_sung 27 = .ok (.iload_n 2, 1) := by decide +kernel
theorem dX4_sung_28 : decode cX4_sung 28 = .ok (.iconst 0, 1) := by decide +kernel
theorem dX4_sung_29 : decode cX4_sung 29 = .ok (.iconst 3, 1) := by decide +kernel
theorem dX4_sung_30 : decode cX4_sung 30 = .ok (.invokestatic 28, 3) := by decide +kernel
theorem dX4_sung_33 : decode cX4_sung 33 = .ok (.ifCond .ne 13, 3) := by decide +kernel
theorem dX4_sung_36 : decode cX4_sung 36 = .ok (.new 55, 3) := by decide +kernel
theorem dX4_sung_39 : decode cX4_sung 39 = .ok (.dup, 1) := by decide +kernel
theorem dX4_sung_40 : decode cX4_sung 40 = .ok (.ldc 250, 2) := by decide +kernel
theorem dX4_sung_42 : decode cX4_sung 42 = .ok (.invokespecial 59, 3) := by decide +kernel
theorem dX4_sung_45 : decode cX4_sung 45 = .ok (.athrow, 1) := by decide +kernel
theorem dX4_sung_46 : decode cX4_sung 46 = .ok (.aload_n 0, 1) := by decide +kernel
theorem dX4_sung_47 : decode cX4_sung 47 = .ok (.getfield 24, 3) := by decide +kernel
theorem dX4_sung_50 : decode cX4_sung 50 = .ok (.iload_n 1, 1) := by decide +kernel
theorem dX4_sung_51 : decode cX4_sung 51 = .ok (.iload_n 2, 1) := by decide +kernel
theorem dX4_sung_52 : decode cX4_sung 52 = .ok (.invokevirtual 252, 3) := by decide +kernel
theorem dX4_sung_55 : decode cX4_sung 55 = .ok (.ireturn, 1) := by decide +kernel
theorem dX4_chord_0 : decode cX4_chord 0 = .ok (.iload_n 1, 1) := by decide +kernel
theorem dX4_chord_1 : decode cX4_chord 1 = .ok (.ifCond .ge 13, 3) := by decide +kernel
theorem dX4_chord_4 : decode cX4_chord 4 = .ok (.new 32, 3) := by decide +kernel
theorem dX4_chord_7 : decode cX4_chord 7 = .ok (.dup, 1) := by decide +kernel
theorem dX4_chord_8 : decode cX4_chord 8 = .ok (.ldc 255, 2) := by decide +kernel
theorem dX4_chord_10 : decode cX4_chord 10 = .ok (.invokespecial 36, 3) := by decide +kernel
theorem dX4_chord_13 : decode cX4_chord 13 = .ok (.athrow, 1) := by decide +kernel
theorem dX4_chord_14 : decode cX4_chord 14 = .ok (.lconst 0, 1) := by decide +kernel
theorem dX4_chord_15 : decode cX4_chord 15 = .ok (.lstore_n 2, 1) := by decide +kernel
theorem dX4_chord_16 : decode cX4_chord 16 = .ok (.lconst 0, 1) := by decide +kernel
theorem dX4_chord_17 : decode cX4_chord 17 = .ok (.lstore 4, 2) := by decide +kernel
theorem dX4_chord_19 : decode cX4_chord 19 = .ok (.iconst 0, 1) := by decide +kernel
theorem dX4_chord_20 : decode cX4_chord 20 = .ok (.istore 6, 2) := by decide +kernel
theorem dX4_chord_22 : decode cX4_chord 22 = .ok (.iload 6, 2) := by decide +kernel
theorem dX4_chord_24 : decode cX4_chord 24 = .ok (.aload_n 0, 1) := by decide +kernel
theorem dX4_chord_25 : decode cX4_chord 25 = .ok (.getfield 24, 3) := by decide +kernel
theorem dX4_chord_28 : decode cX4_chord 28 = .ok (.getfield 245, 3) := by decide +kernel
theorem dX4_chord_31 : decode cX4_chord 31 = .ok (.if_icmp .ge 64, 3) := by decide +kernel
theorem dX4_chord_34 : decode cX4_chord 34 = .ok (.aload_n 0, 1) := by decide +kernel
theorem dX4_chord_35 : decode cX4_chord 35 = .ok (.getfield 24, 3) := by decide +kernel
theorem dX4_chord_38 : decode cX4_chord 38 = .ok (.iload 6, 2) := by decide +kernel
theorem dX4_chord_40 : decode cX4_chord 40 = .ok (.iconst 0, 1) := by decide +kernel
theorem dX4_chord_41 : decode cX4_chord 41 = .ok (.invokevirtual 252, 3) := by decide +kernel
theorem dX4_chord_44 : decode cX4_chord 44 = .ok (.iload_n 1, 1) := by decide +kernel
theorem dX4_chord_45 : decode cX4_chord 45 = .ok (.if_icmp .ne 44, 3) := by decide +kernel
theorem dX4_chord_48 : decode cX4_chord 48 = .ok (.aload_n 0, 1) := by decide +kernel
theorem dX4_chord_49 : decode cX4_chord 49 = .ok (.getfield 24, 3) := by decide +kernel
theorem dX4_chord_52 : decode cX4_chord 52 = .ok (.iload 6, 2) := by decide +kernel
theorem dX4_chord_54 : decode cX4_chord 54 = .ok (.iconst 3, 1) := by decide +kernel
theorem dX4_chord_55 : decode cX4_chord 55 = .ok (.invokevirtual 252, 3) := by decide +kernel
theorem dX4_chord_58 : decode cX4_chord 58 = .ok (.istore 7, 2) := by decide +kernel
theorem dX4_chord_60 : decode cX4_chord 60 = .ok (.iload 7, 2) := by decide +kernel
theorem dX4_chord_62 : decode cX4_chord 62 = .ok (.bipush 64, 2) := by decide +kernel
theorem dX4_chord_64 : decode cX4_chord 64 = .ok (.if_icmp .ge 13, 3) := by decide +kernel
theorem dX4_chord_67 : decode cX4_chord 67 = .ok (.lload_n 2, 1) := by decide +kernel
theorem dX4_chord_68 : decode cX4_chord 68 = .ok (.lconst 1, 1) := by decide +kernel
theorem dX4_chord_69 : decode cX4_chord 69 = .ok (.iload 7, 2) := by decide +kernel
theorem dX4_chord_71 : decode cX4_chord 71 = .ok (.lshl, 1) := by decide +kernel
theorem dX4_chord_72 : decode cX4_chord 72 = .ok (.lor, 1) := by decide +kernel
theorem dX4_chord_73 : decode cX4_chord 73 = .ok (.lstore_n 2, 1) := by decide +kernel
theorem dX4_chord_74 : decode cX4_chord 74 = .ok (.goto 15, 3) := by decide +kernel
theorem dX4_chord_77 : decode cX4_chord 77 = .ok (.lload 4, 2) := by decide +kernel
theorem dX4_chord_79 : decode cX4_chord 79 = .ok (.lconst 1, 1) := by decide +kernel
theorem dX4_chord_80 : decode cX4_chord 80 = .ok (.iload 7, 2) := by decide +kernel
theorem dX4_chord_82 : decode cX4_chord 82 = .ok (.bipush 64, 2) := by decide +kernel
theorem dX4_chord_84 : decode cX4_chord 84 = .ok (.isub, 1) := by decide +kernel
theorem dX4_chord_85 : decode cX4_chord 85 = .ok (.lshl, 1) := by decide +kernel
theorem dX4_chord_86 : decode cX4_chord 86 = .ok (.lor, 1) := by decide +kernel
theorem dX4_chord_87 : decode cX4_chord 87 = .ok (.lstore 4, 2) := by decide +kernel
theorem dX4_chord_89 : decode cX4_chord 89 = .ok (.iinc 6 1, 3) := by decide +kernel
theorem dX4_chord_92 : decode cX4_chord 92 = .ok (.goto (-70), 3) := by decide +kernel
theorem dX4_chord_95 : decode cX4_chord 95 = .ok (.lload_n 2, 1) := by decide +kernel
theorem dX4_chord_96 : decode cX4_chord 96 = .ok (.invokestatic 257, 3) := by decide +kernel
theorem dX4_chord_99 : decode cX4_chord 99 = .ok (.lload 4, 2) := by decide +kernel
theorem dX4_chord_101 : decode cX4_chord 101 = .ok (.invokestatic 257, 3) := by decide +kernel
theorem dX4_chord_104 : decode cX4_chord 104 = .ok (.iadd, 1) := by decide +kernel
theorem dX4_chord_105 : decode cX4_chord 105 = .ok (.ireturn, 1) := by decide +kernel
theorem dX4_longest_0 : decode cX4_longest 0 = .ok (.iconst 0, 1) := by decide +kernel
theorem dX4_longest_1 : decode cX4_longest 1 = .ok (.istore_n 1, 1) := by decide +kernel
theorem dX4_longest_2 : decode cX4_longest 2 = .ok (.iconst 0, 1) := by decide +kernel
theorem dX4_longest_3 : decode cX4_longest 3 = .ok (.istore_n 2, 1) := by decide +kernel
theorem dX4_longest_4 : decode cX4_longest 4 = .ok (.iconst (-1), 1) := by decide +kernel
theorem dX4_longest_5 : decode cX4_longest 5 = .ok (.istore_n 3, 1) := by decide +kernel
theorem dX4_longest_6 : decode cX4_longest 6 = .ok (.iconst 0, 1) := by decide +kernel
theorem dX4_longest_7 : decode cX4_longest 7 = .ok (.istore 4, 2) := by decide +kernel
theorem dX4_longest_9 : decode cX4_longest 9 = .ok (.iload 4, 2) := by decide +kernel
theorem dX4_longest_11 : decode cX4_longest 11 = .ok (.aload_n 0, 1) := by decide +kernel
theorem dX4_longest_12 : decode cX4_longest 12 = .ok (.getfield 24, 3) := by decide +kernel
theorem dX4_longest_15 : decode cX4_longest 15 = .ok (.getfield 245, 3) := by decide +kernel
theorem dX4_longest_18 : decode cX4_longest 18 = .ok (.if_icmp .ge 44, 3) := by decide +kernel
theorem dX4_longest_21 : decode cX4_longest 21 = .ok (.aload_n 0, 1) := by decide +kernel
theorem dX4_longest_22 : decode cX4_longest 22 = .ok (.getfield 24, 3) := by decide +kernel
theorem dX4_longest_25 : decode cX4_longest 25 = .ok (.iload 4, 2) := by decide +kernel
theorem dX4_longest_27 : decode cX4_longest 27 = .ok (.iconst 1, 1) := by decide +kernel
theorem dX4_longest_28 : decode cX4_longest 28 = .ok (.invokevirtual 252, 3) := by decide +kernel
theorem dX4_longest_31 : decode cX4_longest 31 = .ok (.istore 5, 2) := by decide +kernel
theorem dX4_longest_33 : decode cX4_longest 33 = .ok (.iload 5, 2) := by decide +kernel
theorem dX4_longest_35 : decode cX4_longest 35 = .ok (.iload_n 3, 1) := by decide +kernel
theorem dX4_longest_36 : decode cX4_longest 36 = .ok (.if_icmp .ne 9, 3) := by decide +kernel
theorem dX4_longest_39 : decode cX4_longest 39 = .ok (.iload_n 2, 1) := by decide +kernel
theorem dX4_longest_40 : decode cX4_longest 40 = .ok (.iconst 1, 1) := by decide +kernel
theorem dX4_longest_41 : decode cX4_longest 41 = .ok (.iadd, 1) := by decide +kernel
theorem dX4_longest_42 : decode cX4_longest 42 = .ok (.goto 4, 3) := by decide +kernel
theorem dX4_longest_45 : decode cX4_longest 45 = .ok (.iconst 1, 1) := by decide +kernel
theorem dX4_longest_46 : decode cX4_longest 46 = .ok (.istore_n 2, 1) := by decide +kernel
theorem dX4_longest_47 : decode cX4_longest 47 = .ok (.iload 5, 2) := by decide +kernel
theorem dX4_longest_49 : decode cX4_longest 49 = .ok (.istore_n 3, 1) := by decide +kernel
theorem dX4_longest_50 : decode cX4_longest 50 = .ok (.iload_n 1, 1) := by decide +kernel
theorem dX4_longest_51 : decode cX4_longest 51 = .ok (.iload_n 2, 1) := by decide +kernel
theorem dX4_longest_52 : decode cX4_longest 52 = .ok (.invokestatic 262, 3) := by decide +kernel
theorem dX4_longest_55 : decode cX4_longest 55 = .ok (.istore_n 1, 1) := by decide +kernel
theorem dX4_longest_56 : decode cX4_longest 56 = .ok (.iinc 4 1, 3) := by decide +kernel
theorem dX4_longest_59 : decode cX4_longest 59 = .ok (.goto (-50), 3) := by decide +kernel
theorem dX4_longest_62 : decode cX4_longest 62 = .ok (.iload_n 1, 1) := by decide +kernel
theorem dX4_longest_63 : decode cX4_longest 63 = .ok (.ireturn, 1) := by decide +kernel
theorem dX4_emptySongs_0 : decode cX4_emptySongs 0 = .ok (.aload_n 0, 1) := by decide +kernel
theorem dX4_emptySongs_1 : decode cX4_emptySongs 1 = .ok (.getfield 24, 3) := by decide +kernel
theorem dX4_emptySongs_4 : decode cX4_emptySongs 4 = .ok (.getfield 245, 3) := by decide +kernel
theorem dX4_emptySongs_7 : decode cX4_emptySongs 7 = .ok (.istore_n 1, 1) := by decide +kernel
theorem dX4_emptySongs_8 : decode cX4_emptySongs 8 = .ok (.aload_n 0, 1) := by decide +kernel
theorem dX4_emptySongs_9 : decode cX4_emptySongs 9 = .ok (.getfield 24, 3) := by decide +kernel
theorem dX4_emptySongs_12 : decode cX4_emptySongs 12 = .ok (.invokevirtual 265, 3) := by decide +kernel
theorem dX4_emptySongs_15 : decode cX4_emptySongs 15 = .ok (.iload_n 1, 1) := by decide +kernel
theorem dX4_emptySongs_16 : decode cX4_emptySongs 16 = .ok (.ireturn, 1) := by decide +kernel
theorem dX4_runsDown_0 : decode cX4_runsDown 0 = .ok (.iload_n 1, 1) := by decide +kernel
theorem dX4_runsDown_1 : decode cX4_runsDown 1 = .ok (.iconst 1, 1) := by decide +kernel
theorem dX4_runsDown_2 : decode cX4_runsDown 2 = .ok (.sipush 2000, 3) := by decide +kernel
theorem dX4_runsDown_5 : decode cX4_runsDown 5 = .ok (.invokestatic 28, 3) := by decide +kernel
theorem dX4_runsDown_8 : decode cX4_runsDown 8 = .ok (.ifCond .ne 14, 3) := by decide +kernel
theorem dX4_runsDown_11 : decode cX4_runsDown 11 = .ok (.new 32, 3) := by decide +kernel
theorem dX4_runsDown_14 : decode cX4_runsDown 14 = .ok (.dup, 1) := by decide +kernel
theorem dX4_runsDown_15 : decode cX4_runsDown 15 = .ok (.ldc_w 268, 3) := by decide +kernel
theorem dX4_runsDown_18 : decode cX4_runsDown 18 = .ok (.invokespecial 36, 3) := by decide +kernel
theorem dX4_runsDown_21 : decode cX4_runsDown 21 = .ok (.athrow, 1) := by decide +kernel
theorem dX4_runsDown_22 : decode cX4_runsDown 22 = .ok (.aload_n 0, 1) := by decide +kernel
theorem dX4_runsDown_23 : decode cX4_runsDown 23 = .ok (.getfield 234, 3) := by decide +kernel
theorem dX4_runsDown_26 : decode cX4_runsDown 26 = .ok (.istore_n 2, 1) := by decide +kernel
theorem dX4_runsDown_27 : decode cX4_runsDown 27 = .ok (.aload_n 0, 1) := by decide +kernel
theorem dX4_runsDown_28 : decode cX4_runsDown 28 = .ok (.invokevirtual 270, 3) := by decide +kernel
theorem dX4_runsDown_31 : decode cX4_runsDown 31 = .ok (.aload_n 0, 1) := by decide +kernel
theorem dX4_runsDown_32 : decode cX4_runsDown 32 = .ok (.invokevirtual 273, 3) := by decide +kernel
theorem dX4_runsDown_35 : decode cX4_runsDown 35 = .ok (.istore_n 3, 1) := by decide +kernel
theorem dX4_runsDown_36 : decode cX4_runsDown 36 = .ok (.iconst 0, 1) := by decide +kernel
theorem dX4_runsDown_37 : decode cX4_runsDown 37 = .ok (.istore 4, 2) := by decide +kernel
theorem dX4_runsDown_39 : decode cX4_runsDown 39 = .ok (.iload 4, 2) := by decide +kernel
theorem dX4_runsDown_41 : decode cX4_runsDown 41 = .ok (.iload_n 1, 1) := by decide +kernel
theorem dX4_runsDown_42 : decode cX4_runsDown 42 = .ok (.if_icmp .ge 23, 3) := by decide +kernel
theorem dX4_runsDown_45 : decode cX4_runsDown 45 = .ok (.iload_n 3, 1) := by decide +kernel
theorem dX4_runsDown_46 : decode cX4_runsDown 46 = .ok (.ifCond .ne 19, 3) := by decide +kernel
theorem dX4_runsDown_49 : decode cX4_runsDown 49 = .ok (.aload_n 0, 1) := by decide +kernel
theorem dX4_runsDown_50 : decode cX4_runsDown 50 = .ok (.invokevirtual 231, 3) := by decide +kernel
theorem dX4_runsDown_53 : decode cX4_runsDown 53 = .ok (.pop, 1) := by decide +kernel
theorem dX4_runsDown_54 : decode cX4_runsDown 54 = .ok (.aload_n 0, 1) := by decide +kernel
theorem dX4_runsDown_55 : decode cX4_runsDown 55 = .ok (.invokevirtual 273, 3) := by decide +kernel
theorem dX4_runsDown_58 : decode cX4_runsDown 58 = .ok (.istore_n 3, 1) := by decide +kernel
theorem dX4_runsDown_59 : decode cX4_runsDown 59 = .ok (.iinc 4 1, 3) := by decide +kernel
theorem dX4_runsDown_62 : decode cX4_runsDown 62 = .ok (.goto (-23), 3) := by decide +kernel
theorem dX4_runsDown_65 : decode cX4_runsDown 65 = .ok (.aload_n 0, 1) := by decide +kernel
theorem dX4_runsDown_66 : decode cX4_runsDown 66 = .ok (.getfield 234, 3) := by decide +kernel
theorem dX4_runsDown_69 : decode cX4_runsDown 69 = .ok (.istore 4, 2) := by decide +kernel
theorem dX4_runsDown_71 : decode cX4_runsDown 71 = .ok (.aload_n 0, 1) := by decide +kernel
theorem dX4_runsDown_72 : decode cX4_runsDown 72 = .ok (.invokevirtual 277, 3) := by decide +kernel
theorem dX4_runsDown_75 : decode cX4_runsDown 75 = .ok (.aload_n 0, 1) := by decide +kernel
theorem dX4_runsDown_76 : decode cX4_runsDown 76 = .ok (.iload_n 2, 1) := by decide +kernel
theorem dX4_runsDown_77 : decode cX4_runsDown 77 = .ok (.putfield 234, 3) := by decide +kernel
theorem dX4_runsDown_80 : decode cX4_runsDown 80 = .ok (.iload_n 3, 1) := by decide +kernel
theorem dX4_runsDown_81 : decode cX4_runsDown 81 = .ok (.ifCond .eq 8, 3) := by decide +kernel
theorem dX4_runsDown_84 : decode cX4_runsDown 84 = .ok (.iload 4, 2) := by decide +kernel
theorem dX4_runsDown_86 : decode cX4_runsDown 86 = .ok (.goto 4, 3) := by decide +kernel
theorem dX4_runsDown_89 : decode cX4_runsDown 89 = .ok (.iconst (-1), 1) := by decide +kernel
theorem dX4_runsDown_90 : decode cX4_runsDown 90 = .ok (.ireturn, 1) := by decide +kernel
theorem dX4_tension_0 : decode cX4_tension 0 = .ok (.aload_n 0, 1) := by decide +kernel
theorem dX4_tension_1 : decode cX4_tension 1 = .ok (.getfield 39, 3) := by decide +kernel
theorem dX4_tension_4 : decode cX4_tension 4 = .ok (.ifCond .gt 5, 3) := by decide +kernel
theorem dX4_tension_7 : decode cX4_tension 7 = .ok (.dconst 0, 1) := by decide +kernel
theorem dX4_tension_8 : decode cX4_tension 8 = .ok (.dreturn, 1) := by decide +kernel
theorem dX4_tension_9 : decode cX4_tension 9 = .ok (.aload_n 0, 1) := by decide +kernel
theorem dX4_tension_10 : decode cX4_tension 10 = .ok (.invokevirtual 240, 3) := by decide +kernel
theorem dX4_tension_13 : decode cX4_tension 13 = .ok (.i2d, 1) := by decide +kernel
theorem dX4_tension_14 : decode cX4_tension 14 = .ok (.sipush 1000, 3) := by decide +kernel
theorem dX4_tension_17 : decode cX4_tension 17 = .ok (.aload_n 0, 1) := by decide +kernel
theorem dX4_tension_18 : decode cX4_tension 18 = .ok (.getfield 39, 3) := by decide +kernel
theorem dX4_tension_21 : decode cX4_tension 21 = .ok (.imul, 1) := by decide +kernel
theorem dX4_tension_22 : decode cX4_tension 22 = .ok (.i2d, 1) := by decide +kernel
theorem dX4_tension_23 : decode cX4_tension 23 = .ok (.ddiv, 1) := by decide +kernel
theorem dX4_tension_24 : decode cX4_tension 24 = .ok (.dreturn, 1) := by decide +kernel
theorem dX4_digest_0 : decode cX4_digest 0 = .ok (.ldc2_w 280, 3) := by decide +kernel
theorem dX4_digest_3 : decode cX4_digest 3 = .ok (.lstore_n 1, 1) := by decide +kernel
theorem dX4_digest_4 : decode cX4_digest 4 = .ok (.iconst 0, 1) := by decide +kernel
theorem dX4_digest_5 : decode cX4_digest 5 = .ok (.istore_n 3, 1) := by decide +kernel
theorem dX4_digest_6 : decode cX4_digest 6 = .ok (.iload_n 3, 1) := by decide +kernel
theorem dX4_digest_7 : decode cX4_digest 7 = .ok (.bipush 6, 2) := by decide +kernel
theorem dX4_digest_9 : decode cX4_digest 9 = .ok (.if_icmp .ge 19, 3) := by decide +kernel
theorem dX4_digest_12 : decode cX4_digest 12 = .ok (.lload_n 1, 1) := by decide +kernel
theorem dX4_digest_13 : decode cX4_digest 13 = .ok (.aload_n 0, 1) := by decide +kernel
theorem dX4_digest_14 : decode cX4_digest 14 = .ok (.iload_n 3, 1) := by decide +kernel
theorem dX4_digest_15 : decode cX4_digest 15 = .ok (.invokevirtual 282, 3) := by decide +kernel
theorem dX4_digest_18 : decode cX4_digest 18 = .ok (.invokestatic 285, 3) := by decide +kernel
theorem dX4_digest_21 : decode cX4_digest 21 = .ok (.lstore_n 1, 1) := by decide +kernel
theorem dX4_digest_22 : decode cX4_digest 22 = .ok (.iinc 3 1, 3) := by decide +kernel
theorem dX4_digest_25 : decode cX4_digest 25 = .ok (.goto (-19), 3) := by decide +kernel
theorem dX4_digest_28 : decode cX4_digest 28 = .ok (.iconst 0, 1) := by decide +kernel
theorem dX4_digest_29 : decode cX4_digest 29 = .ok (.istore_n 3, 1) := by decide +kernel
theorem dX4_digest_30 : decode cX4_digest 30 = .ok (.iload_n 3, 1) := by decide +kernel
theorem dX4_digest_31 : decode cX4_digest 31 = .ok (.aload_n 0, 1) := by decide +kernel
theorem dX4_digest_32 : decode cX4_digest 32 = .ok (.getfield 39, 3) := by decide +kernel
theorem dX4_digest_35 : decode cX4_digest 35 = .ok (.if_icmp .ge 37, 3) := by decide +kernel
theorem dX4_digest_38 : decode cX4_digest 38 = .ok (.iconst 0, 1) := by decide +kernel
theorem dX4_digest_39 : decode cX4_digest 39 = .ok (.istore 4, 2) := by decide +kernel
theorem dX4_digest_41 : decode cX4_digest 41 = .ok (.iload 4, 2) := by decide +kernel
theorem dX4_digest_43 : decode cX4_digest 43 = .ok (.bipush 7, 2) := by decide +kernel
theorem dX4_digest_45 : decode cX4_digest 45 = .ok (.if_icmp .ge 21, 3) := by decide +kernel
theorem dX4_digest_48 : decode cX4_digest 48 = .ok (.lload_n 1, 1) := by decide +kernel
theorem dX4_digest_49 : decode cX4_digest 49 = .ok (.aload_n 0, 1) := by decide +kernel
theorem dX4_digest_50 : decode cX4_digest 50 = .ok (.iload_n 3, 1) := by decide +kernel
theorem dX4_digest_51 : decode cX4_digest 51 = .ok (.iload 4, 2) := by decide +kernel
theorem dX4_digest_53 : decode cX4_digest 53 = .ok (.invokevirtual 289, 3) := by decide +kernel
theorem dX4_digest_56 : decode cX4_digest 56 = .ok (.invokestatic 285, 3) := by decide +kernel
theorem dX4_digest_59 : decode cX4_digest 59 = .ok (.lstore_n 1, 1) := by decide +kernel
theorem dX4_digest_60 : decode cX4_digest 60 = .ok (.iinc 4 1, 3) := by decide +kernel
theorem dX4_digest_63 : decode cX4_digest 63 = .ok (.goto (-22), 3) := by decide +kernel
theorem dX4_digest_66 : decode cX4_digest 66 = .ok (.iinc 3 1, 3) := by decide +kernel
theorem dX4_digest_69 : decode cX4_digest 69 = .ok (.goto (-39), 3) := by decide +kernel
theorem dX4_digest_72 : decode cX4_digest 72 = .ok (.iconst 0, 1) := by decide +kernel
theorem dX4_digest_73 : decode cX4_digest 73 = .ok (.istore_n 3, 1) := by decide +kernel
theorem dX4_digest_74 : decode cX4_digest 74 = .ok (.iload_n 3, 1) := by decide +kernel
theorem dX4_digest_75 : decode cX4_digest 75 = .ok (.aload_n 0, 1) := by decide +kernel
theorem dX4_digest_76 : decode cX4_digest 76 = .ok (.getfield 114, 3) := by decide +kernel
theorem dX4_digest_79 : decode cX4_digest 79 = .ok (.if_icmp .ge 16, 3) := by decide +kernel
theorem dX4_digest_82 : decode cX4_digest 82 = .ok (.aload_n 0, 1) := by decide +kernel
theorem dX4_digest_83 : decode cX4_digest 83 = .ok (.lload_n 1, 1) := by decide +kernel
theorem dX4_digest_84 : decode cX4_digest 84 = .ok (.iload_n 3, 1) := by decide +kernel
theorem dX4_digest_85 : decode cX4_digest 85 = .ok (.invokevirtual 291, 3) := by decide +kernel
theorem dX4_digest_88 : decode cX4_digest 88 = .ok (.lstore_n 1, 1) := by decide +kernel
theorem dX4_digest_89 : decode cX4_digest 89 = .ok (.iinc 3 1, 3) := by decide +kernel
theorem dX4_digest_92 : decode cX4_digest 92 = .ok (.goto (-18), 3) := by decide +kernel
theorem dX4_digest_95 : decode cX4_digest 95 = .ok (.iconst 0, 1) := by decide +kernel
theorem dX4_digest_96 : decode cX4_digest 96 = .ok (.istore_n 3, 1) := by decide +kernel
theorem dX4_digest_97 : decode cX4_digest 97 = .ok (.iload_n 3, 1) := by decide +kernel
theorem dX4_digest_98 : decode cX4_digest 98 = .ok (.aload_n 0, 1) := by decide +kernel
theorem dX4_digest_99 : decode cX4_digest 99 = .ok (.getfield 24, 3) := by decide +kernel
theorem dX4_digest_102 : decode cX4_digest 102 = .ok (.getfield 245, 3) := by decide +kernel
theorem dX4_digest_105 : decode cX4_digest 105 = .ok (.if_icmp .ge 36, 3) := by decide +kernel
theorem dX4_digest_108 : decode cX4_digest 108 = .ok (.iconst 0, 1) := by decide +kernel
theorem dX4_digest_109 : decode cX4_digest 109 = .ok (.istore 4, 2) := by decide +kernel
theorem dX4_digest_111 : decode cX4_digest 111 = .ok (.iload 4, 2) := by decide +kernel
theorem dX4_digest_113 : decode cX4_digest 113 = .ok (.iconst 4, 1) := by decide +kernel
theorem dX4_digest_114 : decode cX4_digest 114 = .ok (.if_icmp .ge 21, 3) := by decide +kernel
theorem dX4_digest_117 : decode cX4_digest 117 = .ok (.lload_n 1, 1) := by decide +kernel
theorem dX4_digest_118 : decode cX4_digest 118 = .ok (.aload_n 0, 1) := by decide +kernel
theorem dX4_digest_119 : decode cX4_digest 119 = .ok (.iload_n 3, 1) := by decide +kernel
theorem dX4_digest_120 : decode cX4_digest 120 = .ok (.iload 4, 2) := by decide +kernel
theorem dX4_digest_122 : decode cX4_digest 122 = .ok (.invokevirtual 294, 3) := by decide +kernel
theorem dX4_digest_125 : decode cX4_digest 125 = .ok (.invokestatic 285, 3) := by decide +kernel
theorem dX4_digest_128 : decode cX4_digest 128 = .ok (.lstore_n 1, 1) := by decide +kernel
theorem dX4_digest_129 : decode cX4_digest 129 = .ok (.iinc 4 1, 3) := by decide +kernel
theorem dX4_digest_132 : decode cX4_digest 132 = .ok (.goto (-21), 3) := by decide +kernel
theorem dX4_digest_135 : decode cX4_digest 135 = .ok (.iinc 3 1, 3) := by decide +kernel
theorem dX4_digest_138 : decode cX4_digest 138 = .ok (.goto (-41), 3) := by decide +kernel
theorem dX4_digest_141 : decode cX4_digest 141 = .ok (.lload_n 1, 1) := by decide +kernel
theorem dX4_digest_142 : decode cX4_digest 142 = .ok (.lreturn, 1) := by decide +kernel
theorem dX4_goOneTick_0 : decode cX4_goOneTick 0 = .ok (.aload_n 0, 1) := by decide +kernel
theorem dX4_goOneTick_1 : decode cX4_goOneTick 1 = .ok (.dup, 1) := by decide +kernel
theorem dX4_goOneTick_2 : decode cX4_goOneTick 2 = .ok (.getfield 234, 3) := by decide +kernel
theorem dX4_goOneTick_5 : decode cX4_goOneTick 5 = .ok (.iconst 1, 1) := by decide +kernel
theorem dX4_goOneTick_6 : decode cX4_goOneTick 6 = .ok (.iadd, 1) := by decide +kernel
theorem dX4_goOneTick_7 : decode cX4_goOneTick 7 = .ok (.putfield 234, 3) := by decide +kernel
theorem dX4_goOneTick_10 : decode cX4_goOneTick 10 = .ok (.aload_n 0, 1) := by decide +kernel
theorem dX4_goOneTick_11 : decode cX4_goOneTick 11 = .ok (.invokevirtual 297, 3) := by decide +kernel
theorem dX4_goOneTick_14 : decode cX4_goOneTick 14 = .ok (.iconst 0, 1) := by decide +kernel
theorem dX4_goOneTick_15 : decode cX4_goOneTick 15 = .ok (.istore_n 1, 1) := by decide +kernel
theorem dX4_goOneTick_16 : decode cX4_goOneTick 16 = .ok (.iconst 0, 1) := by decide +kernel
theorem dX4_goOneTick_17 : decode cX4_goOneTick 17 = .ok (.istore_n 2, 1) := by decide +kernel
theorem dX4_goOneTick_18 : decode cX4_goOneTick 18 = .ok (.iload_n 2, 1) := by decide +kernel
theorem dX4_goOneTick_19 : decode cX4_goOneTick 19 = .ok (.aload_n 0, 1) := by decide +kernel
theorem dX4_goOneTick_20 : decode cX4_goOneTick 20 = .ok (.getfield 11, 3) := by decide +kernel
theorem dX4_goOneTick_23 : decode cX4_goOneTick 23 = .ok (.arraylength, 1) := by decide +kernel
theorem dX4_goOneTick_24 : decode cX4_goOneTick 24 = .ok (.if_icmp .ge 29, 3) := by decide +kernel
theorem dX4_goOneTick_27 : decode cX4_goOneTick 27 = .ok (.aload_n 0, 1) := by decide +kernel
theorem dX4_goOneTick_28 : decode cX4_goOneTick 28 = .ok (.getfield 11, 3) := by decide +kernel
theorem dX4_goOneTick_31 : decode cX4_goOneTick 31 = .ok (.iload_n 2, 1) := by decide +kernel
theorem dX4_goOneTick_32 : decode cX4_goOneTick 32 = .ok (.aaload, 1) := by decide +kernel
theorem dX4_goOneTick_33 : decode cX4_goOneTick 33 = .ok (.astore_n 3, 1) := by decide +kernel
theorem dX4_goOneTick_34 : decode cX4_goOneTick 34 = .ok (.aload_n 3, 1) := by decide +kernel
theorem dX4_goOneTick_35 : decode cX4_goOneTick 35 = .ok (.ifnull 12, 3) := by decide +kernel
theorem dX4_goOneTick_38 : decode cX4_goOneTick 38 = .ok (.iload_n 1, 1) := by decide +kernel
theorem dX4_goOneTick_39 : decode cX4_goOneTick 39 = .ok (.aload_n 0, 1) := by decide +kernel
theorem dX4_goOneTick_40 : decode cX4_goOneTick 40 = .ok (.iload_n 2, 1) := by decide +kernel
theorem dX4_goOneTick_41 : decode cX4_goOneTick 41 = .ok (.aload_n 3, 1) := by decide +kernel
theorem dX4_goOneTick_42 : decode cX4_goOneTick 42 = .ok (.invokevirtual 300, 3) := by decide +kernel
theorem dX4_goOneTick_45 : decode cX4_goOneTick 45 = .ok (.iadd, 1) := by decide +kernel
theorem dX4_goOneTick_46 : decode cX4_goOneTick 46 = .ok (.istore_n 1, 1) := by decide +kernel
theorem dX4_goOneTick_47 : decode cX4_goOneTick 47 = .ok (.iinc 2 1, 3) := by decide +kernel
theorem dX4_goOneTick_50 : decode cX4_goOneTick 50 = .ok (.goto (-32), 3) := by decide +kernel
theorem dX4_goOneTick_53 : decode cX4_goOneTick 53 = .ok (.iload_n 1, 1) := by decide +kernel
theorem dX4_goOneTick_54 : decode cX4_goOneTick 54 = .ok (.ireturn, 1) := by decide +kernel
theorem dX4_shareBetweenCoupled_0 : decode cX4_shareBetweenCoupled 0 = .ok (.iconst 0, 1) := by decide +kernel
theorem dX4_shareBetweenCoupled_1 : decode cX4_shareBetweenCoupled 1 = .ok (.istore_n 1, 1) := by decide +kernel
theorem dX4_shareBetweenCoupled_2 : decode cX4_shareBetweenCoupled 2 = .ok (.iload_n 1, 1) := by decide +kernel
theorem dX4_shareBetweenCoupled_3 : decode cX4_shareBetweenCoupled 3 = .ok (.aload_n 0, 1) := by decide +kernel
theorem dX4_shareBetweenCoupled_4 : decode cX4_shareBetweenCoupled 4 = .ok (.getfield 11, 3) := by decide +kernel
theorem dX4_shareBetweenCoupled_7 : decode cX4_shareBetweenCoupled 7 = .ok (.arraylength, 1) := by decide +kernel
theorem dX4_shareBetweenCoupled_8 : decode cX4_shareBetweenCoupled 8 = .ok (.if_icmp .ge 54, 3) := by decide +kernel
theorem dX4_shareBetweenCoupled_11 : decode cX4_shareBetweenCoupled 11 = .ok (.iload_n 1, 1) := by decide +kernel
theorem dX4_shareBetweenCoupled_12 : decode cX4_shareBetweenCoupled 12 = .ok (.iconst 1, 1) := by decide +kernel
theorem dX4_shareBetweenCoupled_13 : decode cX4_shareBetweenCoupled 13 = .ok (.iadd, 1) := by decide +kernel
theorem dX4_shareBetweenCoupled_14 : decode cX4_shareBetweenCoupled 14 = .ok (.istore_n 2, 1) := by decide +kernel
theorem dX4_shareBetweenCoupled_15 : decode cX4_shareBetweenCoupled 15 = .ok (.iload_n 2, 1) := by decide +kernel
theorem dX4_shareBetweenCoupled_16 : decode cX4_shareBetweenCoupled 16 = .ok (.aload_n 0, 1) := by decide +kernel
theorem dX4_shareBetweenCoupled_17 : decode cX4_shareBetweenCoupled 17 = .ok (.getfield 11, 3) := by decide +kernel
theorem dX4_shareBetweenCoupled_20 : decode cX4_shareBetweenCoupled 20 = .ok (.arraylength, 1) := by decide +kernel
theorem dX4_shareBetweenCoupled_21 : decode cX4_shareBetweenCoupled 21 = .ok (.if_icmp .ge 35, 3) := by decide +kernel
theorem dX4_shareBetweenCoupled_24 : decode cX4_shareBetweenCoupled 24 = .ok (.aload_n 0, 1) := by decide +kernel
theorem dX4_shareBetweenCoupled_25 : decode cX4_shareBetweenCoupled 25 = .ok (.getfield 81, 3) := by decide +kernel
theorem dX4_shareBetweenCoupled_28 : decode cX4_shareBetweenCoupled 28 = .ok (.iload_n 1, 1) := by decide +kernel
theorem dX4_shareBetweenCoupled_29 : decode cX4_shareBetweenCoupled 29 = .ok (.iload_n 2, 1) := by decide +kernel
theorem dX4_shareBetweenCoupled_30 : decode cX4_shareBetweenCoupled 30 = .ok (.invokestatic 78, 3) := by decide +kernel
theorem dX4_shareBetweenCoupled_33 : decode cX4_shareBetweenCoupled 33 = .ok (.iand, 1) := by decide +kernel
theorem dX4_shareBetweenCoupled_34 : decode cX4_shareBetweenCoupled 34 = .ok (.ifCond .eq 16, 3) := by decide +kernel
theorem dX4_shareBetweenCoupled_37 : decode cX4_shareBetweenCoupled 37 = .ok (.aload_n 0, 1) := by decide +kernel
theorem dX4_shareBetweenCoupled_38 : decode cX4_shareBetweenCoupled 38 = .ok (.iload_n 1, 1) := by decide +kernel
theorem dX4_shareBetweenCoupled_39 : decode cX4_shareBetweenCoupled 39 = .ok (.invokevirtual 51, 3) := by decide +kernel
theorem dX4_shareBetweenCoupled_42 : decode cX4_shareBetweenCoupled 42 = .ok (.aload_n 0, 1) := by decide +kernel
theorem dX4_shareBetweenCoupled_43 : decode cX4_shareBetweenCoupled 43 = .ok (.iload_n 2, 1) := by decide +kernel
theorem dX4_shareBetweenCoupled_44 : decode cX4_shareBetweenCoupled 44 = .ok (.invokevirtual 51, 3) := by decide +kernel
theorem dX4_shareBetweenCoupled_47 : decode cX4_shareBetweenCoupled 47 = .ok (.invokestatic 304, 3) := by decide +kernel
theorem dX4_shareBetweenCoupled_50 : decode cX4_shareBetweenCoupled 50 = .ok (.iinc 2 1, 3) := by decide +kernel
theorem dX4_shareBetweenCoupled_53 : decode cX4_shareBetweenCoupled 53 = .ok (.goto (-38), 3) := by decide +kernel
theorem dX4_shareBetweenCoupled_56 : decode cX4_shareBetweenCoupled 56 = .ok (.iinc 1 1, 3) := by decide +kernel
theorem dX4_shareBetweenCoupled_59 : decode cX4_shareBetweenCoupled 59 = .ok (.goto (-57), 3) := by decide +kernel
theorem dX4_shareBetweenCoupled_62 : decode cX4_shareBetweenCoupled 62 = .ok (.return_, 1) := by decide +kernel
theorem dX4_shareBetween_0 : decode cX4_shareBetween 0 = .ok (.aload_n 0, 1) := by decide +kernel
theorem dX4_shareBetween_1 : decode cX4_shareBetween 1 = .ok (.ifnull 40, 3) := by decide +kernel
theorem dX4_shareBetween_4 : decode cX4_shareBetween 4 = .ok (.aload_n 1, 1) := by decide +kernel
theorem dX4_shareBetween_5 : decode cX4_shareBetween 5 = .ok (.ifnull 36, 3) := by decide +kernel
theorem dX4_shareBetween_8 : decode cX4_shareBetween 8 = .ok (.aload_n 0, 1) := by decide +kernel
theorem dX4_shareBetween_9 : decode cX4_shareBetween 9 = .ok (.getfield 63, 3) := by decide +kernel
theorem dX4_shareBetween_12 : decode cX4_shareBetween 12 = .ok (.aload_n 1, 1) := by decide +kernel
theorem dX4_shareBetween_13 : decode cX4_shareBetween 13 = .ok (.getfield 63, 3) := by decide +kernel
theorem dX4_shareBetween_16 : decode cX4_shareBetween 16 = .ok (.isub, 1) := by decide +kernel
theorem dX4_shareBetween_17 : decode cX4_shareBetween 17 = .ok (.bipush 10, 2) := by decide +kernel
theorem dX4_shareBetween_19 : decode cX4_shareBetween 19 = .ok (.idiv, 1) := by decide +kernel
theorem dX4_shareBetween_20 : decode cX4_shareBetween 20 = .ok (.istore_n 2, 1) := by decide +kernel
theorem dX4_shareBetween_21 : decode cX4_shareBetween 21 = .ok (.aload_n 0, 1) := by decide +kernel
theorem dX4_shareBetween_22 : decode cX4_shareBetween 22 = .ok (.dup, 1) := by decide +kernel
theorem dX4_shareBetween_23 : decode cX4_shareBetween 23 = .ok (.getfield 63, 3) := by decide +kernel
theorem dX4_shareBetween_26 : decode cX4_shareBetween 26 = .ok (.iload_n 2, 1) := by decide +kernel
theorem dX4_shareBetween_27 : decode cX4_shareBetween 27 = .ok (.isub, 1) := by decide +kernel
theorem dX4_shareBetween_28 : decode cX4_shareBetween 28 = .ok (.putfield 63, 3) := by decide +kernel
theorem dX4_shareBetween_31 : decode cX4_shareBetween 31 = .ok (.aload_n 1, 1) := by decide +kernel
theorem dX4_shareBetween_32 : decode cX4_shareBetween 32 = .ok (.dup, 1) := by decide +kernel
theorem dX4_shareBetween_33 : decode cX4_shareBetween 33 = .ok (.getfield 63, 3) := by decide +kernel
theorem dX4_shareBetween_36 : decode cX4_shareBetween 36 = .ok (.iload_n 2, 1) := by decide +kernel
theorem dX4_shareBetween_37 : decode cX4_shareBetween 37 = .ok (.iadd, 1) := by decide +kernel
theorem dX4_shareBetween_38 : decode cX4_shareBetween 38 = .ok (.putfield 63, 3) := by decide +kernel
theorem dX4_shareBetween_41 : decode cX4_shareBetween 41 = .ok (.return_, 1) := by decide +kernel
theorem dX4_goShaft_0 : decode cX4_goShaft 0 = .ok (.aload_n 2, 1) := by decide +kernel
theorem dX4_goShaft_1 : decode cX4_goShaft 1 = .ok (.getfield 72, 3) := by decide +kernel
theorem dX4_goShaft_4 : decode cX4_goShaft 4 = .ok (.ifCond .ne 10, 3) := by decide +kernel
theorem dX4_goShaft_7 : decode cX4_goShaft 7 = .ok (.aload_n 2, 1) := by decide +kernel
theorem dX4_goShaft_8 : decode cX4_goShaft 8 = .ok (.getfield 63, 3) := by decide +kernel
theorem dX4_goShaft_11 : decode cX4_goShaft 11 = .ok (.ifCond .gt 10, 3) := by decide +kernel
theorem dX4_goShaft_14 : decode cX4_goShaft 14 = .ok (.aload_n 2, 1) := by decide +kernel
theorem dX4_goShaft_15 : decode cX4_goShaft 15 = .ok (.iconst 0, 1) := by decide +kernel
theorem dX4_goShaft_16 : decode cX4_goShaft 16 = .ok (.putfield 97, 3) := by decide +kernel
theorem dX4_goShaft_19 : decode cX4_goShaft 19 = .ok (.iconst 0, 1) := by decide +kernel
theorem dX4_goShaft_20 : decode cX4_goShaft 20 = .ok (.ireturn, 1) := by decide +kernel
theorem dX4_goShaft_21 : decode cX4_goShaft 21 = .ok (.aload_n 2, 1) := by decide +kernel
theorem dX4_goShaft_22 : decode cX4_goShaft 22 = .ok (.aload_n 2, 1) := by decide +kernel
theorem dX4_goShaft_23 : decode cX4_goShaft 23 = .ok (.aload_n 0, 1) := by decide +kernel
theorem dX4_goShaft_24 : decode cX4_goShaft 24 = .ok (.iload_n 1, 1) := by decide +kernel
theorem dX4_goShaft_25 : decode cX4_goShaft 25 = .ok (.invokevirtual 103, 3) := by decide +kernel
theorem dX4_goShaft_28 : decode cX4_goShaft 28 = .ok (.invokevirtual 308, 3) := by decide +kernel
theorem dX4_goShaft_31 : decode cX4_goShaft 31 = .ok (.invokevirtual 311, 3) := by decide +kernel
theorem dX4_goShaft_34 : decode cX4_goShaft 34 = .ok (.iconst 0, 1) := by decide +kernel
theorem dX4_goShaft_35 : decode cX4_goShaft 35 = .ok (.istore_n 3, 1) := by decide +kernel
theorem dX4_goShaft_36 : decode cX4_goShaft 36 = .ok (.iconst 0, 1) := by decide +kernel
theorem dX4_goShaft_37 : decode cX4_goShaft 37 = .ok (.istore 4, 2) := by decide +kernel
theorem dX4_goShaft_39 : decode cX4_goShaft 39 = .ok (.iload 4, 2) := by decide +kernel
theorem dX4_goShaft_41 : decode cX4_goShaft 41 = .ok (.aload_n 0, 1) := by decide +kernel
theorem dX4_goShaft_42 : decode cX4_goShaft 42 = .ok (.getfield 17, 3) := by decide +kernel
theorem dX4_goShaft_45 : decode cX4_goShaft 45 = .ok (.arraylength, 1) := by decide +kernel
theorem dX4_goShaft_46 : decode cX4_goShaft 46 = .ok (.if_icmp .ge 44, 3) := by decide +kernel
theorem dX4_goShaft_49 : decode cX4_goShaft 49 = .ok (.aload_n 0, 1) := by decide +kernel
theorem dX4_goShaft_50 : decode cX4_goShaft 50 = .ok (.getfield 17, 3) := by decide +kernel
theorem dX4_goShaft_53 : decode cX4_goShaft 53 = .ok (.iload 4, 2) := by decide +kernel
theorem dX4_goShaft_55 : decode cX4_goShaft 55 = .ok (.aaload, 1) := by decide +kernel
theorem dX4_goShaft_56 : decode cX4_goShaft 56 = .ok (.astore 5, 2) := by decide +kernel
theorem dX4_goShaft_58 : decode cX4_goShaft 58 = .ok (.aload 5, 2) := by decide +kernel
theorem dX4_goShaft_60 : decode cX4_goShaft 60 = .ok (.ifnull 24, 3) := by decide +kernel
theorem dX4_goShaft_63 : decode cX4_goShaft 63 = .ok (.aload 5, 2) := by decide +kernel
theorem dX4_goShaft_65 : decode cX4_goShaft 65 = .ok (.iload_n 1, 1) := by decide +kernel
theorem dX4_goShaft_66 : decode cX4_goShaft 66 = .ok (.invokevirtual 314, 3) := by decide +kernel
theorem dX4_goShaft_69 : decode cX4_goShaft 69 = .ok (.ifCond .eq 15, 3) := by decide +kernel
theorem dX4_goShaft_72 : decode cX4_goShaft 72 = .ok (.iload_n 3, 1) := by decide +kernel
theorem dX4_goShaft_73 : decode cX4_goShaft 73 = .ok (.aload_n 0, 1) := by decide +kernel
theorem dX4_goShaft_74 : decode cX4_goShaft 74 = .ok (.iload 4, 2) := by decide +kernel
theorem dX4_goShaft_76 : decode cX4_goShaft 76 = .ok (.aload 5, 2) := by decide +kernel
theorem dX4_goShaft_78 : decode cX4_goShaft 78 = .ok (.aload_n 2, 1) := by decide +kernel
theorem dX4_goShaft_79 : decode cX4_goShaft 79 = .ok (.invokevirtual 317, 3) := by decide +kernel
theorem dX4_goShaft_82 : decode cX4_goShaft 82 = .ok (.iadd, 1) := by decide +kernel
theorem dX4_goShaft_83 : decode cX4_goShaft 83 = .ok (.istore_n 3, 1) := by decide +kernel
theorem dX4_goShaft_84 : decode cX4_goShaft 84 = .ok (.iinc 4 1, 3) := by decide +kernel
theorem dX4_goShaft_87 : decode cX4_goShaft 87 = .ok (.goto (-48), 3) := by decide +kernel
theorem dX4_goShaft_90 : decode cX4_goShaft 90 = .ok (.iload_n 3, 1) := by decide +kernel
theorem dX4_goShaft_91 : decode cX4_goShaft 91 = .ok (.ireturn, 1) := by decide +kernel
theorem dX4_goBarrel_0 : decode cX4_goBarrel 0 = .ok (.aload_n 2, 1) := by decide +kernel
theorem dX4_goBarrel_1 : decode cX4_goBarrel 1 = .ok (.getfield 216, 3) := by decide +kernel
theorem dX4_goBarrel_4 : decode cX4_goBarrel 4 = .ok (.lstore 4, 2) := by decide +kernel
theorem dX4_goBarrel_6 : decode cX4_goBarrel 6 = .ok (.aload_n 2, 1) := by decide +kernel
theorem dX4_goBarrel_7 : decode cX4_goBarrel 7 = .ok (.aload_n 2, 1) := by decide +kernel
theorem dX4_goBarrel_8 : decode cX4_goBarrel 8 = .ok (.aload_n 3, 1) := by decide +kernel
theorem dX4_goBarrel_9 : decode cX4_goBarrel 9 = .ok (.getfield 93, 3) := by decide +kernel
theorem dX4_goBarrel_12 : decode cX4_goBarrel 12 = .ok (.invokevirtual 321, 3) := by decide +kernel
theorem dX4_goBarrel_15 : decode cX4_goBarrel 15 = .ok (.putfield 216, 3) := by decide +kernel
theorem dX4_goBarrel_18 : decode cX4_goBarrel 18 = .ok (.iconst 0, 1) := by decide +kernel
theorem dX4_goBarrel_19 : decode cX4_goBarrel 19 = .ok (.istore 6, 2) := by decide +kernel
theorem dX4_goBarrel_21 : decode cX4_goBarrel 21 = .ok (.aload_n 2, 1) := by decide +kernel
theorem dX4_goBarrel_22 : decode cX4_goBarrel 22 = .ok (.getfield 216, 3) := by decide +kernel
theorem dX4_goBarrel_25 : decode cX4_goBarrel 25 = .ok (.lload 4, 2) := by decide +kernel
theorem dX4_goBarrel_27 : decode cX4_goBarrel 27 = .ok (.lsub, 1) := by decide +kernel
theorem dX4_goBarrel_28 : decode cX4_goBarrel 28 = .ok (.aload_n 2, 1) := by decide +kernel
theorem dX4_goBarrel_29 : decode cX4_goBarrel 29 = .ok (.getfield 193, 3) := by decide +kernel
theorem dX4_goBarrel_32 : decode cX4_goBarrel 32 = .ok (.i2l, 1) := by decide +kernel
theorem dX4_goBarrel_33 : decode cX4_goBarrel 33 = .ok (.invokestatic 325, 3) := by decide +kernel
theorem dX4_goBarrel_36 : decode cX4_goBarrel 36 = .ok (.lstore 7, 2) := by decide +kernel
theorem dX4_goBarrel_38 : decode cX4_goBarrel 38 = .ok (.lload 7, 2) := by decide +kernel
theorem dX4_goBarrel_40 : decode cX4_goBarrel 40 = .ok (.lconst 0, 1) := by decide +kernel
theorem dX4_goBarrel_41 : decode cX4_goBarrel 41 = .ok (.lcmp, 1) := by decide +kernel
theorem dX4_goBarrel_42 : decode cX4_goBarrel 42 = .ok (.ifCond .le 53, 3) := by decide +kernel
theorem dX4_goBarrel_45 : decode cX4_goBarrel 45 = .ok (.aload_n 2, 1) := by decide +kernel
theorem dX4_goBarrel_46 : decode cX4_goBarrel 46 = .ok (.aload_n 2, 1) := by decide +kernel
theorem dX4_goBarrel_47 : decode cX4_goBarrel 47 = .ok (.getfield 216, 3) := by decide +kernel
theorem dX4_goBarrel_50 : decode cX4_goBarrel 50 = .ok (.lload 7, 2) := by decide +kernel
theorem dX4_goBarrel_52 : decode cX4_goBarrel 52 = .ok (.lsub, 1) := by decide +kernel
theorem dX4_goBarrel_53 : decode cX4_goBarrel 53 = .ok (.lconst 1, 1) := by decide +kernel
theorem dX4_goBarrel_54 : decode cX4_goBarrel 54 = .ok (.ladd, 1) := by decide +kernel
theorem dX4_goBarrel_55 : decode cX4_goBarrel 55 = .ok (.invokevirtual 328, 3) := by decide +kernel
theorem dX4_goBarrel_58 : decode cX4_goBarrel 58 = .ok (.istore 9, 2) := by decide +kernel
theorem dX4_goBarrel_60 : decode cX4_goBarrel 60 = .ok (.aload_n 2, 1) := by decide +kernel
theorem dX4_goBarrel_61 : decode cX4_goBarrel 61 = .ok (.getfield 331, 3) := by decide +kernel
theorem dX4_goBarrel_64 : decode cX4_goBarrel 64 = .ok (.iload 9, 2) := by decide +kernel
theorem dX4_goBarrel_66 : decode cX4_goBarrel 66 = .ok (.invokestatic 165, 3) := by decide +kernel
theorem dX4_goBarrel_69 : decode cX4_goBarrel 69 = .ok (.ifCond .eq 17, 3) := by decide +kernel
theorem dX4_goBarrel_72 : decode cX4_goBarrel 72 = .ok (.iload 6, 2) := by decide +kernel
theorem dX4_goBarrel_74 : decode cX4_goBarrel 74 = .ok (.aload_n 0, 1) := by decide +kernel
theorem dX4_goBarrel_75 : decode cX4_goBarrel 75 = .ok (.iload_n 1, 1) := by decide +kernel
theorem dX4_goBarrel_76 : decode cX4_goBarrel 76 = .ok (.aload_n 2, 1) := by decide +kernel
theorem dX4_goBarrel_77 : decode cX4_goBarrel 77 = .ok (.aload_n 3, 1) := by decide +kernel
theorem dX4_goBarrel_78 : decode cX4_goBarrel 78 = .ok (.iload 9, 2) := by decide +kernel
theorem dX4_goBarrel_80 : decode cX4_goBarrel 80 = .ok (.invokevirtual 334, 3) := by decide +kernel
theorem dX4_goBarrel_83 : decode cX4_goBarrel 83 = .ok (.iadd, 1) := by decide +kernel
theorem dX4_goBarrel_84 : decode cX4_goBarrel 84 = .ok (.istore 6, 2) := by decide +kernel
theorem dX4_goBarrel_86 : decode cX4_goBarrel 86 = .ok (.lload 7, 2) := by decide +kernel
theorem dX4_goBarrel_88 : decode cX4_goBarrel 88 = .ok (.lconst 1, 1) := by decide +kernel
theorem dX4_goBarrel_89 : decode cX4_goBarrel 89 = .ok (.lsub, 1) := by decide +kernel
theorem dX4_goBarrel_90 : decode cX4_goBarrel 90 = .ok (.lstore 7, 2) := by decide +kernel
theorem dX4_goBarrel_92 : decode cX4_goBarrel 92 = .ok (.goto (-54), 3) := by decide +kernel
theorem dX4_goBarrel_95 : decode cX4_goBarrel 95 = .ok (.iload 6, 2) := by decide +kernel
theorem dX4_goBarrel_97 : decode cX4_goBarrel 97 = .ok (.ireturn, 1) := by decide +kernel
theorem dX4_soundPlace_0 : decode cX4_soundPlace 0 = .ok (.iconst 0, 1) := by decide +kernel
theorem dX4_soundPlace_1 : decode cX4_soundPlace 1 = .ok (.istore 5, 2) := by decide +kernel
theorem dX4_soundPlace_3 : decode cX4_soundPlace 3 = .ok (.iconst 0, 1) := by decide +kernel
theorem dX4_soundPlace_4 : decode cX4_soundPlace 4 = .ok (.istore 6, 2) := by decide +kernel
theorem dX4_soundPlace_6 : decode cX4_soundPlace 6 = .ok (.iload 6, 2) := by decide +kernel
theorem dX4_soundPlace_8 : decode cX4_soundPlace 8 = .ok (.bipush 6, 2) := by decide +kernel
theorem dX4_soundPlace_10 : decode cX4_soundPlace 10 = .ok (.if_icmp .ge 50, 3) := by decide +kernel
theorem dX4_soundPlace_13 : decode cX4_soundPlace 13 = .ok (.aload_n 2, 1) := by decide +kernel
theorem dX4_soundPlace_14 : decode cX4_soundPlace 14 = .ok (.iload 4, 2) := by decide +kernel
theorem dX4_soundPlace_16 : decode cX4_soundPlace 16 = .ok (.iload 6, 2) := by decide +kernel
theorem dX4_soundPlace_18 : decode cX4_soundPlace 18 = .ok (.invokevirtual 146, 3) := by decide +kernel
theorem dX4_soundPlace_21 : decode cX4_soundPlace 21 = .ok (.ifCond .eq 33, 3) := by decide +kernel
theorem dX4_soundPlace_24 : decode cX4_soundPlace 24 = .ok (.aload_n 3, 1) := by decide +kernel
theorem dX4_soundPlace_25 : decode cX4_soundPlace 25 = .ok (.invokevirtual 338, 3) := by decide +kernel
theorem dX4_soundPlace_28 : decode cX4_soundPlace 28 = .ok (.aload_n 0, 1) := by decide +kernel
theorem dX4_soundPlace_29 : decode cX4_soundPlace 29 = .ok (.getfield 24, 3) := by decide +kernel
theorem dX4_soundPlace_32 : decode cX4_soundPlace 32 = .ok (.aload_n 0, 1) := by decide +kernel
theorem dX4_soundPlace_33 : decode cX4_soundPlace 33 = .ok (.getfield 234, 3) := by decide +kernel
theorem dX4_soundPlace_36 : decode cX4_soundPlace 36 = .ok (.iload_n 1, 1) := by decide +kernel
theorem dX4_soundPlace_37 : decode cX4_soundPlace 37 = .ok (.iload 6, 2) := by decide +kernel
theorem dX4_soundPlace_39 : decode cX4_soundPlace 39 = .ok (.aload_n 2, 1) := by decide +kernel
theorem dX4_soundPlace_40 : decode cX4_soundPlace 40 = .ok (.getfield 161, 3) := by decide +kernel
theorem dX4_soundPlace_43 : decode cX4_soundPlace 43 = .ok (.iload 6, 2) := by decide +kernel
theorem dX4_soundPlace_45 : decode cX4_soundPlace 45 = .ok (.invokestatic 165, 3) := by decide +kernel
theorem dX4_soundPlace_48 : decode cX4_soundPlace 48 = .ok (.invokevirtual 341, 3) := by decide +kernel
theorem dX4_soundPlace_51 : decode cX4_soundPlace 51 = .ok (.iinc 5 1, 3) := by decide +kernel
theorem dX4_soundPlace_54 : decode cX4_soundPlace 54 = .ok (.iinc 6 1, 3) := by decide +kernel
theorem dX4_soundPlace_57 : decode cX4_soundPlace 57 = .ok (.goto (-51), 3) := by decide +kernel
theorem dX4_soundPlace_60 : decode cX4_soundPlace 60 = .ok (.aload_n 2, 1) := by decide +kernel
theorem dX4_soundPlace_61 : decode cX4_soundPlace 61 = .ok (.dup, 1) := by decide +kernel
theorem dX4_soundPlace_62 : decode cX4_soundPlace 62 = .ok (.getfield 219, 3) := by decide +kernel
theorem dX4_soundPlace_65 : decode cX4_soundPlace 65 = .ok (.iload 5, 2) := by decide +kernel
theorem dX4_soundPlace_67 : decode cX4_soundPlace 67 = .ok (.iadd, 1) := by decide +kernel
theorem dX4_soundPlace_68 : decode cX4_soundPlace 68 = .ok (.putfield 219, 3) := by decide +kernel
theorem dX4_soundPlace_71 : decode cX4_soundPlace 71 = .ok (.iload 5, 2) := by decide +kernel
theorem dX4_soundPlace_73 : decode cX4_soundPlace 73 = .ok (.ireturn, 1) := by decide +kernel
theorem dX4_springAt_0 : decode cX4_springAt 0 = .ok (.iload_n 1, 1) := by decide +kernel
theorem dX4_springAt_1 : decode cX4_springAt 1 = .ok (.ifCond .lt 21, 3) := by decide +kernel
theorem dX4_springAt_4 : decode cX4_springAt 4 = .ok (.iload_n 1, 1) := by decide +kernel
theorem dX4_springAt_5 : decode cX4_springAt 5 = .ok (.aload_n 0, 1) := by decide +kernel
theorem dX4_springAt_6 : decode cX4_springAt 6 = .ok (.getfield 11, 3) := by decide +kernel
theorem dX4_springAt_9 : decode cX4_springAt 9 = .ok (.arraylength, 1) := by decide +kernel
theorem dX4_springAt_10 : decode cX4_springAt 10 = .ok (.if_icmp .ge 12, 3) := by decide +kernel
theorem dX4_springAt_13 : decode cX4_springAt 13 = .ok (.aload_n 0, 1) := by decide +kernel
theorem dX4_springAt_14 : decode cX4_springAt 14 = .ok (.getfield 11, 3) := by decide +kernel
theorem dX4_springAt_17 : decode cX4_springAt 17 = .ok (.iload_n 1, 1) := by decide +kernel
theorem dX4_springAt_18 : decode cX4_springAt 18 = .ok (.aaload, 1) := by decide +kernel
theorem dX4_springAt_19 : decode cX4_springAt 19 = .ok (.goto 4, 3) := by decide +kernel
theorem dX4_springAt_22 : decode cX4_springAt 22 = .ok (.aconst_null, 1) := by decide +kernel
theorem dX4_springAt_23 : decode cX4_springAt 23 = .ok (.areturn, 1) := by decide +kernel
theorem dX4_birdAt_0 : decode cX4_birdAt 0 = .ok (.iload_n 1, 1) := by decide +kernel
theorem dX4_birdAt_1 : decode cX4_birdAt 1 = .ok (.ifCond .lt 21, 3) := by decide +kernel
theorem dX4_birdAt_4 : decode cX4_birdAt 4 = .ok (.iload_n 1, 1) := by decide +kernel
theorem dX4_birdAt_5 : decode cX4_birdAt 5 = .ok (.aload_n 0, 1) := by decide +kernel
theorem dX4_birdAt_6 : decode cX4_birdAt 6 = .ok (.getfield 17, 3) := by decide +kernel
theorem dX4_birdAt_9 : decode cX4_birdAt 9 = .ok (.arraylength, 1) := by decide +kernel
theorem dX4_birdAt_10 : decode cX4_birdAt 10 = .ok (.if_icmp .ge 12, 3) := by decide +kernel
theorem dX4_birdAt_13 : decode cX4_birdAt 13 = .ok (.aload_n 0, 1) := by decide +kernel
theorem dX4_birdAt_14 : decode cX4_birdAt 14 = .ok (.getfield 17, 3) := by decide +kernel
theorem dX4_birdAt_17 : decode cX4_birdAt 17 = .ok (.iload_n 1, 1) := by decide +kernel
theorem dX4_birdAt_18 : decode cX4_birdAt 18 = .ok (.aaload, 1) := by decide +kernel
theorem dX4_birdAt_19 : decode cX4_birdAt 19 = .ok (.goto 4, 3) := by decide +kernel
theorem dX4_birdAt_22 : decode cX4_birdAt 22 = .ok (.aconst_null, 1) := by decide +kernel
theorem dX4_birdAt_23 : decode cX4_birdAt 23 = .ok (.areturn, 1) := by decide +kernel
theorem dX4_birdsDrivenBy_0 : decode cX4_birdsDrivenBy 0 = .ok (.iconst 0, 1) := by decide +kernel
theorem dX4_birdsDrivenBy_1 : decode cX4_birdsDrivenBy 1 = .ok (.istore_n 2, 1) := by decide +kernel
theorem dX4_birdsDrivenBy_2 : decode cX4_birdsDrivenBy 2 = .ok (.aload_n 0, 1) := by decide +kernel
theorem dX4_birdsDrivenBy_3 : decode cX4_birdsDrivenBy 3 = .ok (.getfield 17, 3) := by decide +kernel
theorem dX4_birdsDrivenBy_6 : decode cX4_birdsDrivenBy 6 = .ok (.astore_n 3, 1) := by decide +kernel
theorem dX4_birdsDrivenBy_7 : decode cX4_birdsDrivenBy 7 = .ok (.aload_n 3, 1) := by decide +kernel
theorem dX4_birdsDrivenBy_8 : decode cX4_birdsDrivenBy 8 = .ok (.arraylength, 1) := by decide +kernel
theorem dX4_birdsDrivenBy_9 : decode cX4_birdsDrivenBy 9 = .ok (.istore 4, 2) := by decide +kernel
theorem dX4_birdsDrivenBy_11 : decode cX4_birdsDrivenBy 11 = .ok (.iconst 0, 1) := by decide +kernel
theorem dX4_birdsDrivenBy_12 : decode cX4_birdsDrivenBy 12 = .ok (.istore 5, 2) := by decide +kernel
theorem dX4_birdsDrivenBy_14 : decode cX4_birdsDrivenBy 14 = .ok (.iload 5, 2) := by decide +kernel
theorem dX4_birdsDrivenBy_16 : decode cX4_birdsDrivenBy 16 = .ok (.iload 4, 2) := by decide +kernel
theorem dX4_birdsDrivenBy_18 : decode cX4_birdsDrivenBy 18 = .ok (.if_icmp .ge 32, 3) := by decide +kernel
theorem dX4_birdsDrivenBy_21 : decode cX4_birdsDrivenBy 21 = .ok (.aload_n 3, 1) := by decide +kernel
theorem dX4_birdsDrivenBy_22 : decode cX4_birdsDrivenBy 22 = .ok (.iload 5, 2) := by decide +kernel
theorem dX4_birdsDrivenBy_24 : decode cX4_birdsDrivenBy 24 = .ok (.aaload, 1) := by decide +kernel
theorem dX4_birdsDrivenBy_25 : decode cX4_birdsDrivenBy 25 = .ok (.astore 6, 2) := by decide +kernel
theorem dX4_birdsDrivenBy_27 : decode cX4_birdsDrivenBy 27 = .ok (.aload 6, 2) := by decide +kernel
theorem dX4_birdsDrivenBy_29 : decode cX4_birdsDrivenBy 29 = .ok (.ifnull 15, 3) := by decide +kernel
theorem dX4_birdsDrivenBy_32 : decode cX4_birdsDrivenBy 32 = .ok (.aload 6, 2) := by decide +kernel
theorem dX4_birdsDrivenBy_34 : decode cX4_birdsDrivenBy 34 = .ok (.iload_n 1, 1) := by decide +kernel
theorem dX4_birdsDrivenBy_35 : decode cX4_birdsDrivenBy 35 = .ok (.invokevirtual 314, 3) := by decide +kernel
theorem dX4_birdsDrivenBy_38 : decode cX4_birdsDrivenBy 38 = .ok (.ifCond .eq 6, 3) := by decide +kernel
theorem dX4_birdsDrivenBy_41 : decode cX4_birdsDrivenBy 41 = .ok (.iinc 2 1, 3) := by decide +kernel
theorem dX4_birdsDrivenBy_44 : decode cX4_birdsDrivenBy 44 = .ok (.iinc 5 1, 3) := by decide +kernel
theorem dX4_birdsDrivenBy_47 : decode cX4_birdsDrivenBy 47 = .ok (.goto (-33), 3) := by decide +kernel
theorem dX4_birdsDrivenBy_50 : decode cX4_birdsDrivenBy 50 = .ok (.iload_n 2, 1) := by decide +kernel
theorem dX4_birdsDrivenBy_51 : decode cX4_birdsDrivenBy 51 = .ok (.ireturn, 1) := by decide +kernel
theorem dX4_loadOn_0 : decode cX4_loadOn 0 = .ok (.bipush 10, 2) := by decide +kernel
theorem dX4_loadOn_2 : decode cX4_loadOn 2 = .ok (.istore_n 2, 1) := by decide +kernel
theorem dX4_loadOn_3 : decode cX4_loadOn 3 = .ok (.aload_n 0, 1) := by decide +kernel
theorem dX4_loadOn_4 : decode cX4_loadOn 4 = .ok (.getfield 17, 3) := by decide +kernel
theorem dX4_loadOn_7 : decode cX4_loadOn 7 = .ok (.astore_n 3, 1) := by decide +kernel
theorem dX4_loadOn_8 : decode cX4_loadOn 8 = .ok (.aload_n 3, 1) := by decide +kernel
theorem dX4_loadOn_9 : decode cX4_loadOn 9 = .ok (.arraylength, 1) := by decide +kernel
theorem dX4_loadOn_10 : decode cX4_loadOn 10 = .ok (.istore 4, 2) := by decide +kernel
theorem dX4_loadOn_12 : decode cX4_loadOn 12 = .ok (.iconst 0, 1) := by decide +kernel
theorem dX4_loadOn_13 : decode cX4_loadOn 13 = .ok (.istore 5, 2) := by decide +kernel
theorem dX4_loadOn_15 : decode cX4_loadOn 15 = .ok (.iload 5, 2) := by decide +kernel
theorem dX4_loadOn_17 : decode cX4_loadOn 17 = .ok (.iload 4, 2) := by decide +kernel
theorem dX4_loadOn_19 : decode cX4_loadOn 19 = .ok (.if_icmp .ge 37, 3) := by decide +kernel
theorem dX4_loadOn_22 : decode cX4_loadOn 22 = .ok (.aload_n 3, 1) := by decide +kernel
theorem dX4_loadOn_23 : decode cX4_loadOn 23 = .ok (.iload 5, 2) := by decide +kernel
theorem dX4_loadOn_25 : decode cX4_loadOn 25 = .ok (.aaload, 1) := by decide +kernel
theorem dX4_loadOn_26 : decode cX4_loadOn 26 = .ok (.astore 6, 2) := by decide +kernel
theorem dX4_loadOn_28 : decode cX4_loadOn 28 = .ok (.aload 6, 2) := by decide +kernel
theorem dX4_loadOn_30 : decode cX4_loadOn 30 = .ok (.ifnull 20, 3) := by decide +kernel
theorem dX4_loadOn_33 : decode cX4_loadOn 33 = .ok (.aload 6, 2) := by decide +kernel
theorem dX4_loadOn_35 : decode cX4_loadOn 35 = .ok (.iload_n 1, 1) := by decide +kernel
theorem dX4_loadOn_36 : decode cX4_loadOn 36 = .ok (.invokevirtual 314, 3) := by decide +kernel
theorem dX4_loadOn_39 : decode cX4_loadOn 39 = .ok (.ifCond .eq 11, 3) := by decide +kernel
theorem dX4_loadOn_42 : decode cX4_loadOn 42 = .ok (.iload_n 2, 1) := by decide +kernel
theorem dX4_loadOn_43 : decode cX4_loadOn 43 = .ok (.aload 6, 2) := by decide +kernel
theorem dX4_loadOn_45 : decode cX4_loadOn 45 = .ok (.invokevirtual 345, 3) := by decide +kernel
theorem dX4_loadOn_48 : decode cX4_loadOn 48 = .ok (.iadd, 1) := by decide +kernel
theorem dX4_loadOn_49 : decode cX4_loadOn 49 = .ok (.istore_n 2, 1) := by decide +kernel
theorem dX4_loadOn_50 : decode cX4_loadOn 50 = .ok (.iinc 5 1, 3) := by decide +kernel
theorem dX4_loadOn_53 : decode cX4_loadOn 53 = .ok (.goto (-38), 3) := by decide +kernel
theorem dX4_loadOn_56 : decode cX4_loadOn 56 = .ok (.iload_n 2, 1) := by decide +kernel
theorem dX4_loadOn_57 : decode cX4_loadOn 57 = .ok (.ireturn, 1) := by decide +kernel
theorem dX4_heldByAll_0 : decode cX4_heldByAll 0 = .ok (.iconst 0, 1) := by decide +kernel
theorem dX4_heldByAll_1 : decode cX4_heldByAll 1 = .ok (.istore_n 1, 1) := by decide +kernel
theorem dX4_heldByAll_2 : decode cX4_heldByAll 2 = .ok (.aload_n 0, 1) := by decide +kernel
theorem dX4_heldByAll_3 : decode cX4_heldByAll 3 = .ok (.getfield 11, 3) := by decide +kernel
theorem dX4_heldByAll_6 : decode cX4_heldByAll 6 = .ok (.astore_n 2, 1) := by decide +kernel
theorem dX4_heldByAll_7 : decode cX4_heldByAll 7 = .ok (.aload_n 2, 1) := by decide +kernel
theorem dX4_heldByAll_8 : decode cX4_heldByAll 8 = .ok (.arraylength, 1) := by decide +kernel
theorem dX4_heldByAll_9 : decode cX4_heldByAll 9 = .ok (.istore_n 3, 1) := by decide +kernel
theorem dX4_heldByAll_10 : decode cX4_heldByAll 10 = .ok (.iconst 0, 1) := by decide +kernel
theorem dX4_heldByAll_11 : decode cX4_heldByAll 11 = .ok (.istore 4, 2) := by decide +kernel
theorem dX4_heldByAll_13 : decode cX4_heldByAll 13 = .ok (.iload 4, 2) := by decide +kernel
theorem dX4_heldByAll_15 : decode cX4_heldByAll 15 = .ok (.iload_n 3, 1) := by decide +kernel
theorem dX4_heldByAll_16 : decode cX4_heldByAll 16 = .ok (.if_icmp .ge 28, 3) := by decide +kernel
theorem dX4_heldByAll_19 : decode cX4_heldByAll 19 = .ok (.aload_n 2, 1) := by decide +kernel
theorem dX4_heldByAll_20 : decode cX4_heldByAll 20 = .ok (.iload 4, 2) := by decide +kernel
theorem dX4_heldByAll_22 : decode cX4_heldByAll 22 = .ok (.aaload, 1) := by decide +kernel
theorem dX4_heldByAll_23 : decode cX4_heldByAll 23 = .ok (.astore 5, 2) := by decide +kernel
theorem dX4_heldByAll_25 : decode cX4_heldByAll 25 = .ok (.aload 5, 2) := by decide +kernel
theorem dX4_heldByAll_27 : decode cX4_heldByAll 27 = .ok (.ifnull 11, 3) := by decide +kernel
theorem dX4_heldByAll_30 : decode cX4_heldByAll 30 = .ok (.iload_n 1, 1) := by decide +kernel
theorem dX4_heldByAll_31 : decode cX4_heldByAll 31 = .ok (.aload 5, 2) := by decide +kernel
theorem dX4_heldByAll_33 : decode cX4_heldByAll 33 = .ok (.getfield 63, 3) := by decide +kernel
theorem dX4_heldByAll_36 : decode cX4_heldByAll 36 = .ok (.iadd, 1) := by decide +kernel
theorem dX4_heldByAll_37 : decode cX4_heldByAll 37 = .ok (.istore_n 1, 1) := by decide +kernel
theorem dX4_heldByAll_38 : decode cX4_heldByAll 38 = .ok (.iinc 4 1, 3) := by decide +kernel
theorem dX4_heldByAll_41 : decode cX4_heldByAll 41 = .ok (.goto (-28), 3) := by decide +kernel
theorem dX4_heldByAll_44 : decode cX4_heldByAll 44 = .ok (.iload_n 1, 1) := by decide +kernel
theorem dX4_heldByAll_45 : decode cX4_heldByAll 45 = .ok (.ireturn, 1) := by decide +kernel
theorem dX4_areAllDown_0 : decode cX4_areAllDown 0 = .ok (.aload_n 0, 1) := by decide +kernel
theorem dX4_areAllDown_1 : decode cX4_areAllDown 1 = .ok (.getfield 11, 3) := by decide +kernel
theorem dX4_areAllDown_4 : decode cX4_areAllDown 4 = .ok (.astore_n 1, 1) := by decide +kernel
theorem dX4_areAllDown_5 : decode cX4_areAllDown 5 = .ok (.aload_n 1, 1) := by decide +kernel
theorem dX4_areAllDown_6 : decode cX4_areAllDown 6 = .ok (.arraylength, 1) := by decide +kernel
theorem dX4_areAllDown_7 : decode cX4_areAllDown 7 = .ok (.istore_n 2, 1) := by decide +kernel
theorem dX4_areAllDown_8 : decode cX4_areAllDown 8 = .ok (.iconst 0, 1) := by decide +kernel
theorem dX4_areAllDown_9 : decode cX4_areAllDown 9 = .ok (.istore_n 3, 1) := by decide +kernel
theorem dX4_areAllDown_10 : decode cX4_areAllDown 10 = .ok (.iload_n 3, 1) := by decide +kernel
theorem dX4_areAllDown_11 : decode cX4_areAllDown 11 = .ok (.iload_n 2, 1) := by decide +kernel
theorem dX4_areAllDown_12 : decode cX4_areAllDown 12 = .ok (.if_icmp .ge 37, 3) := by decide +kernel
theorem dX4_areAllDown_15 : decode cX4_areAllDown 15 = .ok (.aload_n 1, 1) := by decide +kernel
theorem dX4_areAllDown_16 : decode cX4_areAllDown 16 = .ok (.iload_n 3, 1) := by decide +kernel
theorem dX4_areAllDown_17 : decode cX4_areAllDown 17 = .ok (.aaload, 1) := by decide +kernel
theorem dX4_areAllDown_18 : decode cX4_areAllDown 18 = .ok (.astore 4, 2) := by decide +kernel
theorem dX4_areAllDown_20 : decode cX4_areAllDown 20 = .ok (.aload 4, 2) := by decide +kernel
theorem dX4_areAllDown_22 : decode cX4_areAllDown 22 = .ok (.ifnull 21, 3) := by decide +kernel
theorem dX4_areAllDown_25 : decode cX4_areAllDown 25 = .ok (.aload 4, 2) := by decide +kernel
theorem dX4_areAllDown_27 : decode cX4_areAllDown 27 = .ok (.getfield 72, 3) := by decide +kernel
theorem dX4_areAllDown_30 : decode cX4_areAllDown 30 = .ok (.ifCond .ne 13, 3) := by decide +kernel
theorem dX4_areAllDown_33 : decode cX4_areAllDown 33 = .ok (.aload 4, 2) := by decide +kernel
theorem dX4_areAllDown_35 : decode cX4_areAllDown 35 = .ok (.getfield 63, 3) := by decide +kernel
theorem dX4_areAllDown_38 : decode cX4_areAllDown 38 = .ok (.ifCond .le 5, 3) := by decide +kernel
theorem dX4_areAllDown_41 : decode cX4_areAllDown 41 = .ok (.iconst 0, 1) := by decide +kernel
theorem dX4_areAllDown_42 : decode cX4_areAllDown 42 = .ok (.ireturn, 1) := by decide +kernel
theorem dX4_areAllDown_43 : decode cX4_areAllDown 43 = .ok (.iinc 3 1, 3) := by decide +kernel
theorem dX4_areAllDown_46 : decode cX4_areAllDown 46 = .ok (.goto (-36), 3) := by decide +kernel
theorem dX4_areAllDown_49 : decode cX4_areAllDown 49 = .ok (.iconst 1, 1) := by decide +kernel
theorem dX4_areAllDown_50 : decode cX4_areAllDown 50 = .ok (.ireturn, 1) := by decide +kernel
theorem dX4_rememberAll_0 : decode cX4_rememberAll 0 = .ok (.aload_n 0, 1) := by decide +kernel
theorem dX4_rememberAll_1 : decode cX4_rememberAll 1 = .ok (.getfield 11, 3) := by decide +kernel
theorem dX4_rememberAll_4 : decode cX4_rememberAll 4 = .ok (.astore_n 1, 1) := by decide +kernel
theorem dX4_rememberAll_5 : decode cX4_rememberAll 5 = .ok (.aload_n 1, 1) := by decide +kernel
theorem dX4_rememberAll_6 : decode cX4_rememberAll 6 = .ok (.arraylength, 1) := by decide +kernel
theorem dX4_rememberAll_7 : decode cX4_rememberAll 7 = .ok (.istore_n 2, 1) := by decide +kernel
theorem dX4_rememberAll_8 : decode cX4_rememberAll 8 = .ok (.iconst 0, 1) := by decide +kernel
theorem dX4_rememberAll_9 : decode cX4_rememberAll 9 = .ok (.istore_n 3, 1) := by decide +kernel
theorem dX4_rememberAll_10 : decode cX4_rememberAll 10 = .ok (.iload_n 3, 1) := by decide +kernel
theorem dX4_rememberAll_11 : decode cX4_rememberAll 11 = .ok (.iload_n 2, 1) := by decide +kernel
theorem dX4_rememberAll_12 : decode cX4_rememberAll 12 = .ok (.if_icmp .ge 24, 3) := by decide +kernel
theorem dX4_rememberAll_15 : decode cX4_rememberAll 15 = .ok (.aload_n 1, 1) := by decide +kernel
theorem dX4_rememberAll_16 : decode cX4_rememberAll 16 = .ok (.iload_n 3, 1) := by decide +kernel
theorem dX4_rememberAll_17 : decode cX4_rememberAll 17 = .ok (.aaload, 1) := by decide +kernel
theorem dX4_rememberAll_18 : decode cX4_rememberAll 18 = .ok (.astore 4, 2) := by decide +kernel
theorem dX4_rememberAll_20 : decode cX4_rememberAll 20 = .ok (.aload 4, 2) := by decide +kernel
theorem dX4_rememberAll_22 : decode cX4_rememberAll 22 = .ok (.ifnull 8, 3) := by decide +kernel
theorem dX4_rememberAll_25 : decode cX4_rememberAll 25 = .ok (.aload 4, 2) := by decide +kernel
theorem dX4_rememberAll_27 : decode cX4_rememberAll 27 = .ok (.invokevirtual 348, 3) := by decide +kernel
theorem dX4_rememberAll_30 : decode cX4_rememberAll 30 = .ok (.iinc 3 1, 3) := by decide +kernel
theorem dX4_rememberAll_33 : decode cX4_rememberAll 33 = .ok (.goto (-23), 3) := by decide +kernel
theorem dX4_rememberAll_36 : decode cX4_rememberAll 36 = .ok (.aload_n 0, 1) := by decide +kernel
theorem dX4_rememberAll_37 : decode cX4_rememberAll 37 = .ok (.getfield 17, 3) := by decide +kernel
theorem dX4_rememberAll_40 : decode cX4_rememberAll 40 = .ok (.astore_n 1, 1) := by decide +kernel
theorem dX4_rememberAll_41 : decode cX4_rememberAll 41 = .ok (.aload_n 1, 1) := by decide +kernel
theorem dX4_rememberAll_42 : decode cX4_rememberAll 42 = .ok (.arraylength, 1) := by decide +kernel
theorem dX4_rememberAll_43 : decode cX4_rememberAll 43 = .ok (.istore_n 2, 1) := by decide +kernel
theorem dX4_rememberAll_44 : decode cX4_rememberAll 44 = .ok (.iconst 0, 1) := by decide +kernel
theorem dX4_rememberAll_45 : decode cX4_rememberAll 45 = .ok (.istore_n 3, 1) := by decide +kernel
theorem dX4_rememberAll_46 : decode cX4_rememberAll 46 = .ok (.iload_n 3, 1) := by decide +kernel
theorem dX4_rememberAll_47 : decode cX4_rememberAll 47 = .ok (.iload_n 2, 1) := by decide +kernel
theorem dX4_rememberAll_48 : decode cX4_rememberAll 48 = .ok (.if_icmp .ge 24, 3) := by decide +kernel
theorem dX4_rememberAll_51 : decode cX4_rememberAll 51 = .ok (.aload_n 1, 1) := by decide +kernel
theorem dX4_rememberAll_52 : decode cX4_rememberAll 52 = .ok (.iload_n 3, 1) := by decide +kernel
theorem dX4_rememberAll_53 : decode cX4_rememberAll 53 = .ok (.aaload, 1) := by decide +kernel
theorem dX4_rememberAll_54 : decode cX4_rememberAll 54 = .ok (.astore 4, 2) := by decide +kernel
theorem dX4_rememberAll_56 : decode cX4_rememberAll 56 = .ok (.aload 4, 2) := by decide +kernel
theorem dX4_rememberAll_58 : decode cX4_rememberAll 58 = .ok (.ifnull 8, 3) := by decide +kernel
theorem dX4_rememberAll_61 : decode cX4_rememberAll 61 = .ok (.aload 4, 2) := by decide +kernel
theorem dX4_rememberAll_63 : decode cX4_rememberAll 63 = .ok (.invokevirtual 351, 3) := by decide +kernel
theorem dX4_rememberAll_66 : decode cX4_rememberAll 66 = .ok (.iinc 3 1, 3) := by decide +kernel
theorem dX4_rememberAll_69 : decode cX4_rememberAll 69 = .ok (.goto (-23), 3) := by decide +kernel
theorem dX4_rememberAll_72 : decode cX4_rememberAll 72 = .ok (.aload_n 0, 1) := by decide +kernel
theorem dX4_rememberAll_73 : decode cX4_rememberAll 73 = .ok (.getfield 24, 3) := by decide +kernel
theorem dX4_rememberAll_76 : decode cX4_rememberAll 76 = .ok (.invokevirtual 352, 3) := by decide +kernel
theorem dX4_rememberAll_79 : decode cX4_rememberAll 79 = .ok (.return_, 1) := by decide +kernel
theorem dX4_recallAll_0 : decode cX4_recallAll 0 = .ok (.aload_n 0, 1) := by decide +kernel
theorem dX4_recallAll_1 : decode cX4_recallAll 1 = .ok (.getfield 11, 3) := by decide +kernel
theorem dX4_recallAll_4 : decode cX4_recallAll 4 = .ok (.astore_n 1, 1) := by decide +kernel
theorem dX4_recallAll_5 : decode cX4_recallAll 5 = .ok (.aload_n 1, 1) := by decide +kernel
theorem dX4_recallAll_6 : decode cX4_recallAll 6 = .ok (.arraylength, 1) := by decide +kernel
theorem dX4_recallAll_7 : decode cX4_recallAll 7 = .ok (.istore_n 2, 1) := by decide +kernel
theorem dX4_recallAll_8 : decode cX4_recallAll 8 = .ok (.iconst 0, 1) := by decide +kernel
theorem dX4_recallAll_9 : decode cX4_recallAll 9 = .ok (.istore_n 3, 1) := by decide +kernel
theorem dX4_recallAll_10 : decode cX4_recallAll 10 = .ok (.iload_n 3, 1) := by decide +kernel
theorem dX4_recallAll_11 : decode cX4_recallAll 11 = .ok (.iload_n 2, 1) := by decide +kernel
theorem dX4_recallAll_12 : decode cX4_recallAll 12 = .ok (.if_icmp .ge 24, 3) := by decide +kernel
theorem dX4_recallAll_15 : decode cX4_recallAll 15 = .ok (.aload_n 1, 1) := by decide +kernel
theorem dX4_recallAll_16 : decode cX4_recallAll 16 = .ok (.iload_n 3, 1) := by decide +kernel
theorem dX4_recallAll_17 : decode cX4_recallAll 17 = .ok (.aaload, 1) := by decide +kernel
theorem dX4_recallAll_18 : decode cX4_recallAll 18 = .ok (.astore 4, 2) := by decide +kernel
theorem dX4_recallAll_20 : decode cX4_recallAll 20 = .ok (.aload 4, 2) := by decide +kernel
theorem dX4_recallAll_22 : decode cX4_recallAll 22 = .ok (.ifnull 8, 3) := by decide +kernel
theorem dX4_recallAll_25 : decode cX4_recallAll 25 = .ok (.aload 4, 2) := by decide +kernel
theorem dX4_recallAll_27 : decode cX4_recallAll 27 = .ok (.invokevirtual 353, 3) := by decide +kernel
theorem dX4_recallAll_30 : decode cX4_recallAll 30 = .ok (.iinc 3 1, 3) := by decide +kernel
theorem dX4_recallAll_33 : decode cX4_recallAll 33 = .ok (.goto (-23), 3) := by decide +kernel
theorem dX4_recallAll_36 : decode cX4_recallAll 36 = .ok (.aload_n 0, 1) := by decide +kernel
theorem dX4_recallAll_37 : decode cX4_recallAll 37 = .ok (.getfield 17, 3) := by decide +kernel
theorem dX4_recallAll_40 : decode cX4_recallAll 40 = .ok (.astore_n 1, 1) := by decide +kernel
theorem dX4_recallAll_41 : decode cX4_recallAll 41 = .ok (.aload_n 1, 1) := by decide +kernel
theorem dX4_recallAll_42 : decode cX4_recallAll 42 = .ok (.arraylength, 1) := by decide +kernel
theorem dX4_recallAll_43 : decode cX4_recallAll 43 = .ok (.istore_n 2, 1) := by decide +kernel
theorem dX4_recallAll_44 : decode cX4_recallAll 44 = .ok (.iconst 0, 1) := by decide +kernel
theorem dX4_recallAll_45 : decode cX4_recallAll 45 = .ok (.istore_n 3, 1) := by decide +kernel
theorem dX4_recallAll_46 : decode cX4_recallAll 46 = .ok (.iload_n 3, 1) := by decide +kernel
theorem dX4_recallAll_47 : decode cX4_recallAll 47 = .ok (.iload_n 2, 1) := by decide +kernel
theorem dX4_recallAll_48 : decode cX4_recallAll 48 = .ok (.if_icmp .ge 24, 3) := by decide +kernel
theorem dX4_recallAll_51 : decode cX4_recallAll 51 = .ok (.aload_n 1, 1) := by decide +kernel
theorem dX4_recallAll_52 : decode cX4_recallAll 52 = .ok (.iload_n 3, 1) := by decide +kernel
theorem dX4_recallAll_53 : decode cX4_recallAll 53 = .ok (.aaload, 1) := by decide +kernel
theorem dX4_recallAll_54 : decode cX4_recallAll 54 = .ok (.astore 4, 2) := by decide +kernel
theorem dX4_recallAll_56 : decode cX4_recallAll 56 = .ok (.aload 4, 2) := by decide +kernel
theorem dX4_recallAll_58 : decode cX4_recallAll 58 = .ok (.ifnull 8, 3) := by decide +kernel
theorem dX4_recallAll_61 : decode cX4_recallAll 61 = .ok (.aload 4, 2) := by decide +kernel
theorem dX4_recallAll_63 : decode cX4_recallAll 63 = .ok (.invokevirtual 356, 3) := by decide +kernel
theorem dX4_recallAll_66 : decode cX4_recallAll 66 = .ok (.iinc 3 1, 3) := by decide +kernel
theorem dX4_recallAll_69 : decode cX4_recallAll 69 = .ok (.goto (-23), 3) := by decide +kernel
theorem dX4_recallAll_72 : decode cX4_recallAll 72 = .ok (.aload_n 0, 1) := by decide +kernel
theorem dX4_recallAll_73 : decode cX4_recallAll 73 = .ok (.getfield 24, 3) := by decide +kernel
theorem dX4_recallAll_76 : decode cX4_recallAll 76 = .ok (.invokevirtual 357, 3) := by decide +kernel
theorem dX4_recallAll_79 : decode cX4_recallAll 79 = .ok (.return_, 1) := by decide +kernel
theorem dX4_mixBird_0 : decode cX4_mixBird 0 = .ok (.lload_n 1, 1) := by decide +kernel
theorem dX4_mixBird_1 : decode cX4_mixBird 1 = .ok (.lstore 4, 2) := by decide +kernel
theorem dX4_mixBird_3 : decode cX4_mixBird 3 = .ok (.iconst 0, 1) := by decide +kernel
theorem dX4_mixBird_4 : decode cX4_mixBird 4 = .ok (.istore 6, 2) := by decide +kernel
theorem dX4_mixBird_6 : decode cX4_mixBird 6 = .ok (.iload 6, 2) := by decide +kernel
theorem dX4_mixBird_8 : decode cX4_mixBird 8 = .ok (.bipush 10, 2) := by decide +kernel
theorem dX4_mixBird_10 : decode cX4_mixBird 10 = .ok (.if_icmp .ge 23, 3) := by decide +kernel
theorem dX4_mixBird_13 : decode cX4_mixBird 13 = .ok (.lload 4, 2) := by decide +kernel
theorem dX4_mixBird_15 : decode cX4_mixBird 15 = .ok (.aload_n 0, 1) := by decide +kernel
theorem dX4_mixBird_16 : decode cX4_mixBird 16 = .ok (.iload_n 3, 1) := by decide +kernel
theorem dX4_mixBird_17 : decode cX4_mixBird 17 = .ok (.iload 6, 2) := by decide +kernel
theorem dX4_mixBird_19 : decode cX4_mixBird 19 = .ok (.invokevirtual 358, 3) := by decide +kernel
theorem dX4_mixBird_22 : decode cX4_mixBird 22 = .ok (.invokestatic 285, 3) := by decide +kernel
theorem dX4_mixBird_25 : decode cX4_mixBird 25 = .ok (.lstore 4, 2) := by decide +kernel
theorem dX4_mixBird_27 : decode cX4_mixBird 27 = .ok (.iinc 6 1, 3) := by decide +kernel
theorem dX4_mixBird_30 : decode cX4_mixBird 30 = .ok (.goto (-24), 3) := by decide +kernel
theorem dX4_mixBird_33 : decode cX4_mixBird 33 = .ok (.aload_n 0, 1) := by decide +kernel
theorem dX4_mixBird_34 : decode cX4_mixBird 34 = .ok (.iload_n 3, 1) := by decide +kernel
theorem dX4_mixBird_35 : decode cX4_mixBird 35 = .ok (.invokevirtual 122, 3) := by decide +kernel
theorem dX4_mixBird_38 : decode cX4_mixBird 38 = .ok (.astore 6, 2) := by decide +kernel
theorem dX4_mixBird_40 : decode cX4_mixBird 40 = .ok (.aload 6, 2) := by decide +kernel
theorem dX4_mixBird_42 : decode cX4_mixBird 42 = .ok (.ifnull 47, 3) := by decide +kernel
theorem dX4_mixBird_45 : decode cX4_mixBird 45 = .ok (.aload 6, 2) := by decide +kernel
theorem dX4_mixBird_47 : decode cX4_mixBird 47 = .ok (.getfield 161, 3) := by decide +kernel
theorem dX4_mixBird_50 : decode cX4_mixBird 50 = .ok (.astore 7, 2) := by decide +kernel
theorem dX4_mixBird_52 : decode cX4_mixBird 52 = .ok (.aload 7, 2) := by decide +kernel
theorem dX4_mixBird_54 : decode cX4_mixBird 54 = .ok (.arraylength, 1) := by decide +kernel
theorem dX4_mixBird_55 : decode cX4_mixBird 55 = .ok (.istore 8, 2) := by decide +kernel
theorem dX4_mixBird_57 : decode cX4_mixBird 57 = .ok (.iconst 0, 1) := by decide +kernel
theorem dX4_mixBird_58 : decode cX4_mixBird 58 = .ok (.istore 9, 2) := by decide +kernel
theorem dX4_mixBird_60 : decode cX4_mixBird 60 = .ok (.iload 9, 2) := by decide +kernel
theorem dX4_mixBird_62 : decode cX4_mixBird 62 = .ok (.iload 8, 2) := by decide +kernel
theorem dX4_mixBird_64 : decode cX4_mixBird 64 = .ok (.if_icmp .ge 25, 3) := by decide +kernel
theorem dX4_mixBird_67 : decode cX4_mixBird 67 = .ok (.aload 7, 2) := by decide +kernel
theorem dX4_mixBird_69 : decode cX4_mixBird 69 = .ok (.iload 9, 2) := by decide +kernel
theorem dX4_mixBird_71 : decode cX4_mixBird 71 = .ok (.iaload, 1) := by decide +kernel
theorem dX4_mixBird_72 : decode cX4_mixBird 72 = .ok (.istore 10, 2) := by decide +kernel
theorem dX4_mixBird_74 : decode cX4_mixBird 74 = .ok (.lload 4, 2) := by decide +kernel
theorem dX4_mixBird_76 : decode cX4_mixBird 76 = .ok (.iload 10, 2) := by decide +kernel
theorem dX4_mixBird_78 : decode cX4_mixBird 78 = .ok (.invokestatic 285, 3) := by decide +kernel
theorem dX4_mixBird_81 : decode cX4_mixBird 81 = .ok (.lstore 4, 2) := by decide +kernel
theorem dX4_mixBird_83 : decode cX4_mixBird 83 = .ok (.iinc 9 1, 3) := by decide +kernel
theorem dX4_mixBird_86 : decode cX4_mixBird 86 = .ok (.goto (-26), 3) := by decide +kernel
theorem dX4_mixBird_89 : decode cX4_mixBird 89 = .ok (.iconst 0, 1) := by decide +kernel
theorem dX4_mixBird_90 : decode cX4_mixBird 90 = .ok (.istore 7, 2) := by decide +kernel
theorem dX4_mixBird_92 : decode cX4_mixBird 92 = .ok (.iload 7, 2) := by decide +kernel
theorem dX4_mixBird_94 : decode cX4_mixBird 94 = .ok (.iconst 3, 1) := by decide +kernel
theorem dX4_mixBird_95 : decode cX4_mixBird 95 = .ok (.if_icmp .ge 24, 3) := by decide +kernel
theorem dX4_mixBird_98 : decode cX4_mixBird 98 = .ok (.lload 4, 2) := by decide +kernel
theorem dX4_mixBird_100 : decode cX4_mixBird 100 = .ok (.aload_n 0, 1) := by decide +kernel
theorem dX4_mixBird_101 : decode cX4_mixBird 101 = .ok (.iload_n 3, 1) := by decide +kernel
theorem dX4_mixBird_102 : decode cX4_mixBird 102 = .ok (.iload 7, 2) := by decide +kernel
theorem dX4_mixBird_104 : decode cX4_mixBird 104 = .ok (.iconst (-1), 1) := by decide +kernel
theorem dX4_mixBird_105 : decode cX4_mixBird 105 = .ok (.invokevirtual 361, 3) := by decide +kernel
theorem dX4_mixBird_108 : decode cX4_mixBird 108 = .ok (.invokestatic 285, 3) := by decide +kernel
theorem dX4_mixBird_111 : decode cX4_mixBird 111 = .ok (.lstore 4, 2) := by decide +kernel
theorem dX4_mixBird_113 : decode cX4_mixBird 113 = .ok (.iinc 7 1, 3) := by decide +kernel
theorem dX4_mixBird_116 : decode cX4_mixBird 116 = .ok (.goto (-24), 3) := by decide +kernel
theorem dX4_mixBird_119 : decode cX4_mixBird 119 = .ok (.lload 4, 2) := by decide +kernel
theorem dX4_mixBird_121 : decode cX4_mixBird 121 = .ok (.lreturn, 1) := by decide +kernel
theorem dX4_mix_0 : decode cX4_mix 0 = .ok (.lload_n 0, 1) := by decide +kernel
theorem dX4_mix_1 : decode cX4_mix 1 = .ok (.ldc2_w 365, 3) := by decide +kernel
theorem dX4_mix_4 : decode cX4_mix 4 = .ok (.lmul, 1) := by decide +kernel
theorem dX4_mix_5 : decode cX4_mix 5 = .ok (.iload_n 2, 1) := by decide +kernel
theorem dX4_mix_6 : decode cX4_mix 6 = .ok (.i2l, 1) := by decide +kernel
theorem dX4_mix_7 : decode cX4_mix 7 = .ok (.ladd, 1) := by decide +kernel
theorem dX4_mix_8 : decode cX4_mix 8 = .ok (.lreturn, 1) := by decide +kernel
theorem dX4_pairBit_0 : decode cX4_pairBit 0 = .ok (.iconst 1, 1) := by decide +kernel
theorem dX4_pairBit_1 : decode cX4_pairBit 1 = .ok (.iload_n 0, 1) := by decide +kernel
theorem dX4_pairBit_2 : decode cX4_pairBit 2 = .ok (.iload_n 1, 1) := by decide +kernel
theorem dX4_pairBit_3 : decode cX4_pairBit 3 = .ok (.invokestatic 66, 3) := by decide +kernel
theorem dX4_pairBit_6 : decode cX4_pairBit 6 = .ok (.iconst 4, 1) := by decide +kernel
theorem dX4_pairBit_7 : decode cX4_pairBit 7 = .ok (.imul, 1) := by decide +kernel
theorem dX4_pairBit_8 : decode cX4_pairBit 8 = .ok (.iload_n 0, 1) := by decide +kernel
theorem dX4_pairBit_9 : decode cX4_pairBit 9 = .ok (.iload_n 1, 1) := by decide +kernel
theorem dX4_pairBit_10 : decode cX4_pairBit 10 = .ok (.invokestatic 262, 3) := by decide +kernel
theorem dX4_pairBit_13 : decode cX4_pairBit 13 = .ok (.iadd, 1) := by decide +kernel
theorem dX4_pairBit_14 : decode cX4_pairBit 14 = .ok (.ishl, 1) := by decide +kernel
theorem dX4_pairBit_15 : decode cX4_pairBit 15 = .ok (.ireturn, 1) := by decide +kernel
theorem dX4_isIn_0 : decode cX4_isIn 0 = .ok (.iload_n 0, 1) := by decide +kernel
theorem dX4_isIn_1 : decode cX4_isIn 1 = .ok (.iload_n 1, 1) := by decide +kernel
theorem dX4_isIn_2 : decode cX4_isIn 2 = .ok (.if_icmp .lt 12, 3) := by decide +kernel
theorem dX4_isIn_5 : decode cX4_isIn 5 = .ok (.iload_n 0, 1) := by decide +kernel
theorem dX4_isIn_6 : decode cX4_isIn 6 = .ok (.iload_n 2, 1) := by decide +kernel
theorem dX4_isIn_7 : decode cX4_isIn 7 = .ok (.if_icmp .gt 7, 3) := by decide +kernel
theorem dX4_isIn_10 : decode cX4_isIn 10 = .ok (.iconst 1, 1) := by decide +kernel
theorem dX4_isIn_11 : decode cX4_isIn 11 = .ok (.goto 4, 3) := by decide +kernel
theorem dX4_isIn_14 : decode cX4_isIn 14 = .ok (.iconst 0, 1) := by decide +kernel
theorem dX4_isIn_15 : decode cX4_isIn 15 = .ok (.ireturn, 1) := by decide +kernel
theorem dX4_remainder_0 : decode cX4_remainder 0 = .ok (.iload_n 1, 1) := by decide +kernel
theorem dX4_remainder_1 : decode cX4_remainder 1 = .ok (.ifCond .le 9, 3) := by decide +kernel
theorem dX4_remainder_4 : decode cX4_remainder 4 = .ok (.iload_n 0, 1) := by decide +kernel
theorem dX4_remainder_5 : decode cX4_remainder 5 = .ok (.iload_n 1, 1) := by decide +kernel
theorem dX4_remainder_6 : decode cX4_remainder 6 = .ok (.irem, 1) := by decide +kernel
theorem dX4_remainder_7 : decode cX4_remainder 7 = .ok (.goto 4, 3) := by decide +kernel
theorem dX4_remainder_10 : decode cX4_remainder 10 = .ok (.iconst 0, 1) := by decide +kernel
theorem dX4_remainder_11 : decode cX4_remainder 11 = .ok (.ireturn, 1) := by decide +kernel
theorem dX4_at_0 : decode cX4_at 0 = .ok (.iload_n 1, 1) := by decide +kernel
theorem dX4_at_1 : decode cX4_at 1 = .ok (.ifCond .lt 15, 3) := by decide +kernel
theorem dX4_at_4 : decode cX4_at 4 = .ok (.iload_n 1, 1) := by decide +kernel
theorem dX4_at_5 : decode cX4_at 5 = .ok (.aload_n 0, 1) := by decide +kernel
theorem dX4_at_6 : decode cX4_at 6 = .ok (.arraylength, 1) := by decide +kernel
theorem dX4_at_7 : decode cX4_at 7 = .ok (.if_icmp .ge 9, 3) := by decide +kernel
theorem dX4_at_10 : decode cX4_at 10 = .ok (.aload_n 0, 1) := by decide +kernel
theorem dX4_at_11 : decode cX4_at 11 = .ok (.iload_n 1, 1) := by decide +kernel
theorem dX4_at_12 : decode cX4_at 12 = .ok (.iaload, 1) := by decide +kernel
theorem dX4_at_13 : decode cX4_at 13 = .ok (.goto 4, 3) := by decide +kernel
theorem dX4_at_16 : decode cX4_at 16 = .ok (.iconst 0, 1) := by decide +kernel
theorem dX4_at_17 : decode cX4_at 17 = .ok (.ireturn, 1) := by decide +kernel
theorem dX4_put_0 : decode cX4_put 0 = .ok (.iload_n 1, 1) := by decide +kernel
theorem dX4_put_1 : decode cX4_put 1 = .ok (.ifCond .lt 13, 3) := by decide +kernel
theorem dX4_put_4 : decode cX4_put 4 = .ok (.iload_n 1, 1) := by decide +kernel
theorem dX4_put_5 : decode cX4_put 5 = .ok (.aload_n 0, 1) := by decide +kernel
theorem dX4_put_6 : decode cX4_put 6 = .ok (.arraylength, 1) := by decide +kernel
theorem dX4_put_7 : decode cX4_put 7 = .ok (.if_icmp .ge 7, 3) := by decide +kernel
theorem dX4_put_10 : decode cX4_put 10 = .ok (.aload_n 0, 1) := by decide +kernel
theorem dX4_put_11 : decode cX4_put 11 = .ok (.iload_n 1, 1) := by decide +kernel
theorem dX4_put_12 : decode cX4_put 12 = .ok (.iload_n 2, 1) := by decide +kernel
theorem dX4_put_13 : decode cX4_put 13 = .ok (.iastore, 1) := by decide +kernel
theorem dX4_put_14 : decode cX4_put 14 = .ok (.return_, 1) := by decide +kernel
end
section
theorem dX5_init_0 : decode cX5_init 0 = .ok (.aload_n 0, 1) := by decide +kernel
theorem dX5_init_1 : decode cX5_init 1 = .ok (.invokespecial 1, 3) := by decide +kernel
theorem dX5_init_4 : decode cX5_init 4 = .ok (.aload_n 0, 1) := by decide +kernel
theorem dX5_init_5 : decode cX5_init 5 = .ok (.bipush 20, 2) := by decide +kernel
theorem dX5_init_7 : decode cX5_init 7 = .ok (.newarray .int, 2) := by decide +kernel
theorem dX5_init_9 : decode cX5_init 9 = .ok (.putfield 9, 3) := by decide +kernel
theorem dX5_init_12 : decode cX5_init 12 = .ok (.aload_n 0, 1) := by decide +kernel
theorem dX5_init_13 : decode cX5_init 13 = .ok (.bipush 88, 2) := by decide +kernel
theorem dX5_init_15 : decode cX5_init 15 = .ok (.newarray .int, 2) := by decide +kernel
theorem dX5_init_17 : decode cX5_init 17 = .ok (.putfield 13, 3) := by decide +kernel
theorem dX5_init_20 : decode cX5_init 20 = .ok (.aload_n 0, 1) := by decide +kernel
theorem dX5_init_21 : decode cX5_init 21 = .ok (.bipush 16, 2) := by decide +kernel
theorem dX5_init_23 : decode cX5_init 23 = .ok (.newarray .boolean, 2) := by decide +kernel
theorem dX5_init_25 : decode cX5_init 25 = .ok (.putfield 16, 3) := by decide +kernel
theorem dX5_init_28 : decode cX5_init 28 = .ok (.aload_n 0, 1) := by decide +kernel
theorem dX5_init_29 : decode cX5_init 29 = .ok (.sipush 768, 3) := by decide +kernel
theorem dX5_init_32 : decode cX5_init 32 = .ok (.newarray .int, 2) := by decide +kernel
theorem dX5_init_34 : decode cX5_init 34 = .ok (.putfield 20, 3) := by decide +kernel
theorem dX5_init_37 : decode cX5_init 37 = .ok (.aload_n 0, 1) := by decide +kernel
theorem dX5_init_38 : decode cX5_init 38 = .ok (.bipush 48, 2) := by decide +kernel
theorem dX5_init_40 : decode cX5_init 40 = .ok (.newarray .int, 2) := by decide +kernel
theorem dX5_init_42 : decode cX5_init 42 = .ok (.putfield 23, 3) := by decide +kernel
theorem dX5_init_45 : decode cX5_init 45 = .ok (.aload_n 0, 1) := by decide +kernel
theorem dX5_init_46 : decode cX5_init 46 = .ok (.sipush 2304, 3) := by decide +kernel
theorem dX5_init_49 : decode cX5_init 49 = .ok (.newarray .int, 2) := by decide +kernel
theorem dX5_init_51 : decode cX5_init 51 = .ok (.putfield 26, 3) := by decide +kernel
theorem dX5_init_54 : decode cX5_init 54 = .ok (.aload_n 0, 1) := by decide +kernel
theorem dX5_init_55 : decode cX5_init 55 = .ok (.sipush 1000, 3) := by decide +kernel
theorem dX5_init_58 : decode cX5_init 58 = .ok (.newarray .int, 2) := by decide +kernel
theorem dX5_init_60 : decode cX5_init 60 = .ok (.putfield 29, 3) := by decide +kernel
theorem dX5_init_63 : decode cX5_init 63 = .ok (.aload_n 0, 1) := by decide +kernel
theorem dX5_init_64 : decode cX5_init 64 = .ok (.bipush 20, 2) := by decide +kernel
theorem dX5_init_66 : decode cX5_init 66 = .ok (.newarray .int, 2) := by decide +kernel
theorem dX5_init_68 : decode cX5_init 68 = .ok (.putfield 32, 3) := by decide +kernel
theorem dX5_init_71 : decode cX5_init 71 = .ok (.aload_n 0, 1) := by decide +kernel
theorem dX5_init_72 : decode cX5_init 72 = .ok (.bipush 88, 2) := by decide +kernel
theorem dX5_init_74 : decode cX5_init 74 = .ok (.newarray .int, 2) := by decide +kernel
theorem dX5_init_76 : decode cX5_init 76 = .ok (.putfield 35, 3) := by decide +kernel
theorem dX5_init_79 : decode cX5_init 79 = .ok (.return_, 1) := by decide +kernel
theorem dX5_thrown_0 : decode cX5_thrown 0 = .ok (.aload_n 0, 1) := by decide +kernel
theorem dX5_thrown_1 : decode cX5_thrown 1 = .ok (.getfield 38, 3) := by decide +kernel
theorem dX5_thrown_4 : decode cX5_thrown 4 = .ok (.ireturn, 1) := by decide +kernel
theorem dX5_fail_0 : decode cX5_fail 0 = .ok (.aload_n 0, 1) := by decide +kernel
theorem dX5_fail_1 : decode cX5_fail 1 = .ok (.iload_n 1, 1) := by decide +kernel
theorem dX5_fail_2 : decode cX5_fail 2 = .ok (.putfield 38, 3) := by decide +kernel
theorem dX5_fail_5 : decode cX5_fail 5 = .ok (.iconst 0, 1) := by decide +kernel
theorem dX5_fail_6 : decode cX5_fail 6 = .ok (.ireturn, 1) := by decide +kernel
theorem dX5_isIn_0 : decode cX5_isIn 0 = .ok (.iload_n 0, 1) := by decide +kernel
theorem dX5_isIn_1 : decode cX5_isIn 1 = .ok (.iload_n 1, 1) := by decide +kernel
theorem dX5_isIn_2 : decode cX5_isIn 2 = .ok (.if_icmp .lt 12, 3) := by decide +kernel
theorem dX5_isIn_5 : decode cX5_isIn 5 = .ok (.iload_n 0, 1) := by decide +kernel
theorem dX5_isIn_6 : decode cX5_isIn 6 = .ok (.iload_n 2, 1) := by decide +kernel
theorem dX5_isIn_7 : decode cX5_isIn 7 = .ok (.if_icmp .gt 7, 3) := by decide +kernel
theorem dX5_isIn_10 : decode cX5_isIn 10 = .ok (.iconst 1, 1) := by decide +kernel
theorem dX5_isIn_11 : decode cX5_isIn 11 = .ok (.goto 4, 3) := by decide +kernel
theorem dX5_isIn_14 : decode cX5_isIn 14 = .ok (.iconst 0, 1) := by decide +kernel
theorem dX5_isIn_15 : decode cX5_isIn 15 = .ok (.ireturn, 1) := by decide +kernel
theorem dX5_isSpring_0 : decode cX5_isSpring 0 = .ok (.iload_n 1, 1) := by decide +kernel
theorem dX5_isSpring_1 : decode cX5_isSpring 1 = .ok (.iconst 0, 1) := by decide +kernel
theorem dX5_isSpring_2 : decode cX5_isSpring 2 = .ok (.aload_n 0, 1) := by decide +kernel
theorem dX5_isSpring_3 : decode cX5_isSpring 3 = .ok (.getfield 42, 3) := by decide +kernel
theorem dX5_isSpring_6 : decode cX5_isSpring 6 = .ok (.iconst 1, 1) := by decide +kernel
theorem dX5_isSpring_7 : decode cX5_isSpring 7 = .ok (.isub, 1) := by decide +kernel
theorem dX5_isSpring_8 : decode cX5_isSpring 8 = .ok (.invokestatic 45, 3) := by decide +kernel
theorem dX5_isSpring_11 : decode cX5_isSpring 11 = .ok (.ireturn, 1) := by decide +kernel
theorem dX5_isBird_0 : decode cX5_isBird 0 = .ok (.iload_n 1, 1) := by decide +kernel
theorem dX5_isBird_1 : decode cX5_isBird 1 = .ok (.iconst 0, 1) := by decide +kernel
theorem dX5_isBird_2 : decode cX5_isBird 2 = .ok (.aload_n 0, 1) := by decide +kernel
theorem dX5_isBird_3 : decode cX5_isBird 3 = .ok (.getfield 49, 3) := by decide +kernel
theorem dX5_isBird_6 : decode cX5_isBird 6 = .ok (.iconst 1, 1) := by decide +kernel
theorem dX5_isBird_7 : decode cX5_isBird 7 = .ok (.isub, 1) := by decide +kernel
theorem dX5_isBird_8 : decode cX5_isBird 8 = .ok (.invokestatic 45, 3) := by decide +kernel
theorem dX5_isBird_11 : decode cX5_isBird 11 = .ok (.ireturn, 1) := by decide +kernel
theorem dX5_get_0 : decode cX5_get 0 = .ok (.aload_n 0, 1) := by decide +kernel
theorem dX5_get_1 : decode cX5_get 1 = .ok (.getfield 13, 3) := by decide +kernel
theorem dX5_get_4 : decode cX5_get 4 = .ok (.bipush 11, 2) := by decide +kernel
theorem dX5_get_6 : decode cX5_get 6 = .ok (.iload_n 1, 1) := by decide +kernel
theorem dX5_get_7 : decode cX5_get 7 = .ok (.imul, 1) := by decide +kernel
theorem dX5_get_8 : decode cX5_get 8 = .ok (.iload_n 2, 1) := by decide +kernel
theorem dX5_get_9 : decode cX5_get 9 = .ok (.iadd, 1) := by decide +kernel
theorem dX5_get_10 : decode cX5_get 10 = .ok (.iaload, 1) := by decide +kernel
theorem dX5_get_11 : decode cX5_get 11 = .ok (.ireturn, 1) := by decide +kernel
theorem dX5_set_0 : decode cX5_set 0 = .ok (.aload_n 0, 1) := by decide +kernel
theorem dX5_set_1 : decode cX5_set 1 = .ok (.getfield 13, 3) := by decide +kernel
theorem dX5_set_4 : decode cX5_set 4 = .ok (.bipush 11, 2) := by decide +kernel
theorem dX5_set_6 : decode cX5_set 6 = .ok (.iload_n 1, 1) := by decide +kernel
theorem dX5_set_7 : decode cX5_set 7 = .ok (.imul, 1) := by decide +kernel
theorem dX5_set_8 : decode cX5_set 8 = .ok (.iload_n 2, 1) := by decide +kernel
theorem dX5_set_9 : decode cX5_set 9 = .ok (.iadd, 1) := by decide +kernel
theorem dX5_set_10 : decode cX5_set 10 = .ok (.iload_n 3, 1) := by decide +kernel
theorem dX5_set_11 : decode cX5_set 11 = .ok (.iastore, 1) := by decide +kernel
theorem dX5_set_12 : decode cX5_set 12 = .ok (.return_, 1) := by decide +kernel
theorem dX5_addSpring_0 : decode cX5_addSpring 0 = .ok (.aload_n 0, 1) := by decide +kernel
theorem dX5_addSpring_1 : decode cX5_addSpring 1 = .ok (.iconst 0, 1) := by decide +kernel
theorem dX5_addSpring_2 : decode cX5_addSpring 2 = .ok (.putfield 38, 3) := by decide +kernel
theorem dX5_addSpring_5 : decode cX5_addSpring 5 = .ok (.iload_n 1, 1) := by decide +kernel
theorem dX5_addSpring_6 : decode cX5_addSpring 6 = .ok (.iconst 1, 1) := by decide +kernel
theorem dX5_addSpring_7 : decode cX5_addSpring 7 = .ok (.bipush 50, 2) := by decide +kernel
theorem dX5_addSpring_9 : decode cX5_addSpring 9 = .ok (.invokestatic 45, 3) := by decide +kernel
theorem dX5_addSpring_12 : decode cX5_addSpring 12 = .ok (.ifCond .ne 9, 3) := by decide +kernel
theorem dX5_addSpring_15 : decode cX5_addSpring 15 = .ok (.aload_n 0, 1) := by decide +kernel
theorem dX5_addSpring_16 : decode cX5_addSpring 16 = .ok (.iconst 1, 1) := by decide +kernel
theorem dX5_addSpring_17 : decode cX5_addSpring 17 = .ok (.invokevirtual 52, 3) := by decide +kernel
theorem dX5_addSpring_20 : decode cX5_addSpring 20 = .ok (.ireturn, 1) := by decide +kernel
theorem dX5_addSpring_21 : decode cX5_addSpring 21 = .ok (.aload_n 0, 1) := by decide +kernel
theorem dX5_addSpring_22 : decode cX5_addSpring 22 = .ok (.getfield 42, 3) := by decide +kernel
theorem dX5_addSpring_25 : decode cX5_addSpring 25 = .ok (.iconst 4, 1) := by decide +kernel
theorem dX5_addSpring_26 : decode cX5_addSpring 26 = .ok (.if_icmp .ne 9, 3) := by decide +kernel
theorem dX5_addSpring_29 : decode cX5_addSpring 29 = .ok (.aload_n 0, 1) := by decide +kernel
theorem dX5_addSpring_30 : decode cX5_addSpring 30 = .ok (.iconst 2, 1) := by decide +kernel
theorem dX5_addSpring_31 : decode cX5_addSpring 31 = .ok (.invokevirtual 52, 3) := by decide +kernel
theorem dX5_addSpring_34 : decode cX5_addSpring 34 = .ok (.ireturn, 1) := by decide +kernel
theorem dX5_addSpring_35 : decode cX5_addSpring 35 = .ok (.aload_n 0, 1) := by decide +kernel
theorem dX5_addSpring_36 : decode cX5_addSpring 36 = .ok (.getfield 9, 3) := by decide +kernel
theorem dX5_addSpring_39 : decode cX5_addSpring 39 = .ok (.iconst 5, 1) := by decide +kernel
theorem dX5_addSpring_40 : decode cX5_addSpring 40 = .ok (.aload_n 0, 1) := by decide +kernel
theorem dX5_addSpring_41 : decode cX5_addSpring 41 = .ok (.getfield 42, 3) := by decide +kernel
theorem dX5_addSpring_44 : decode cX5_addSpring 44 = .ok (.imul, 1) := by decide +kernel
theorem dX5_addSpring_45 : decode cX5_addSpring 45 = .ok (.iload_n 1, 1) := by decide +kernel
theorem dX5_addSpring_46 : decode cX5_addSpring 46 = .ok (.iastore, 1) := by decide +kernel
theorem dX5_addSpring_47 : decode cX5_addSpring 47 = .ok (.aload_n 0, 1) := by decide +kernel
theorem dX5_addSpring_48 : decode cX5_addSpring 48 = .ok (.dup, 1) := by decide +kernel
theorem dX5_addSpring_49 : decode cX5_addSpring 49 = .ok (.getfield 42, 3) := by decide +kernel
theorem dX5_addSpring_52 : decode cX5_addSpring 52 = .ok (.iconst 1, 1) := by decide +kernel
theorem dX5_addSpring_53 : decode cX5_addSpring 53 = .ok (.iadd, 1) := by decide +kernel
theorem dX5_addSpring_54 : decode cX5_addSpring 54 = .ok (.putfield 42, 3) := by decide +kernel
theorem dX5_addSpring_57 : decode cX5_addSpring 57 = .ok (.aload_n 0, 1) := by decide +kernel
theorem dX5_addSpring_58 : decode cX5_addSpring 58 = .ok (.getfield 42, 3) := by decide +kernel
theorem dX5_addSpring_61 : decode cX5_addSpring 61 = .ok (.iconst 1, 1) := by decide +kernel
theorem dX5_addSpring_62 : decode cX5_addSpring 62 = .ok (.isub, 1) := by decide +kernel
theorem dX5_addSpring_63 : decode cX5_addSpring 63 = .ok (.ireturn, 1) := by decide +kernel
theorem dX5_wind_0 : decode cX5_wind 0 = .ok (.aload_n 0, 1) := by decide +kernel
theorem dX5_wind_1 : decode cX5_wind 1 = .ok (.iconst 0, 1) := by decide +kernel
theorem dX5_wind_2 : decode cX5_wind 2 = .ok (.putfield 38, 3) := by decide +kernel
theorem dX5_wind_5 : decode cX5_wind 5 = .ok (.aload_n 0, 1) := by decide +kernel
theorem dX5_wind_6 : decode cX5_wind 6 = .ok (.iload_n 1, 1) := by decide +kernel
theorem dX5_wind_7 : decode cX5_wind 7 = .ok (.invokevirtual 56, 3) := by decide +kernel
theorem dX5_wind_10 : decode cX5_wind 10 = .ok (.ifCond .ne 9, 3) := by decide +kernel
theorem dX5_wind_13 : decode cX5_wind 13 = .ok (.aload_n 0, 1) := by decide +kernel
theorem dX5_wind_14 : decode cX5_wind 14 = .ok (.iconst 1, 1) := by decide +kernel
theorem dX5_wind_15 : decode cX5_wind 15 = .ok (.invokevirtual 52, 3) := by decide +kernel
theorem dX5_wind_18 : decode cX5_wind 18 = .ok (.ireturn, 1) := by decide +kernel
theorem dX5_wind_19 : decode cX5_wind 19 = .ok (.iload_n 2, 1) := by decide +kernel
theorem dX5_wind_20 : decode cX5_wind 20 = .ok (.iconst 1, 1) := by decide +kernel
theorem dX5_wind_21 : decode cX5_wind 21 = .ok (.ldc 60, 2) := by decide +kernel
theorem dX5_wind_23 : decode cX5_wind 23 = .ok (.invokestatic 45, 3) := by decide +kernel
theorem dX5_wind_26 : decode cX5_wind 26 = .ok (.ifCond .ne 9, 3) := by decide +kernel
theorem dX5_wind_29 : decode cX5_wind 29 = .ok (.aload_n 0, 1) := by decide +kernel
theorem dX5_wind_30 : decode cX5_wind 30 = .ok (.iconst 2, 1) := by decide +kernel
theorem dX5_wind_31 : decode cX5_wind 31 = .ok (.invokevirtual 52, 3) := by decide +kernel
theorem dX5_wind_34 : decode cX5_wind 34 = .ok (.ireturn, 1) := by decide +kernel
theorem dX5_wind_35 : decode cX5_wind 35 = .ok (.iconst 5, 1) := by decide +kernel
theorem dX5_wind_36 : decode cX5_wind 36 = .ok (.iload_n 1, 1) := by decide +kernel
theorem dX5_wind_37 : decode cX5_wind 37 = .ok (.imul, 1) := by decide +kernel
theorem dX5_wind_38 : decode cX5_wind 38 = .ok (.iconst 1, 1) := by decide +kernel
theorem dX5_wind_39 : decode cX5_wind 39 = .ok (.iadd, 1) := by decide +kernel
theorem dX5_wind_40 : decode cX5_wind 40 = .ok (.istore_n 3, 1) := by decide +kernel
theorem dX5_wind_41 : decode cX5_wind 41 = .ok (.aload_n 0, 1) := by decide +kernel
theorem dX5_wind_42 : decode cX5_wind 42 = .ok (.getfield 9, 3) := by decide +kernel
theorem dX5_wind_45 : decode cX5_wind 45 = .ok (.iload_n 3, 1) := by decide +kernel
theorem dX5_wind_46 : decode cX5_wind 46 = .ok (.ldc 60, 2) := by decide +kernel
theorem dX5_wind_48 : decode cX5_wind 48 = .ok (.aload_n 0, 1) := by decide +kernel
theorem dX5_wind_49 : decode cX5_wind 49 = .ok (.getfield 9, 3) := by decide +kernel
theorem dX5_wind_52 : decode cX5_wind 52 = .ok (.iload_n 3, 1) := by decide +kernel
theorem dX5_wind_53 : decode cX5_wind 53 = .ok (.iaload, 1) := by decide +kernel
theorem dX5_wind_54 : decode cX5_wind 54 = .ok (.iload_n 2, 1) := by decide +kernel
theorem dX5_wind_55 : decode cX5_wind 55 = .ok (.iadd, 1) := by decide +kernel
theorem dX5_wind_56 : decode cX5_wind 56 = .ok (.invokestatic 61, 3) := by decide +kernel
theorem dX5_wind_59 : decode cX5_wind 59 = .ok (.iastore, 1) := by decide +kernel
theorem dX5_wind_60 : decode cX5_wind 60 = .ok (.aload_n 0, 1) := by decide +kernel
theorem dX5_wind_61 : decode cX5_wind 61 = .ok (.getfield 9, 3) := by decide +kernel
theorem dX5_wind_64 : decode cX5_wind 64 = .ok (.iload_n 3, 1) := by decide +kernel
theorem dX5_wind_65 : decode cX5_wind 65 = .ok (.iaload, 1) := by decide +kernel
theorem dX5_wind_66 : decode cX5_wind 66 = .ok (.ireturn, 1) := by decide +kernel
theorem dX5_brake_0 : decode cX5_brake 0 = .ok (.aload_n 0, 1) := by decide +kernel
theorem dX5_brake_1 : decode cX5_brake 1 = .ok (.aload_n 0, 1) := by decide +kernel
theorem dX5_brake_2 : decode cX5_brake 2 = .ok (.iload_n 1, 1) := by decide +kernel
theorem dX5_brake_3 : decode cX5_brake 3 = .ok (.invokevirtual 56, 3) := by decide +kernel
theorem dX5_brake_6 : decode cX5_brake 6 = .ok (.ifCond .eq 7, 3) := by decide +kernel
theorem dX5_brake_9 : decode cX5_brake 9 = .ok (.iconst 0, 1) := by decide +kernel
theorem dX5_brake_10 : decode cX5_brake 10 = .ok (.goto 4, 3) := by decide +kernel
theorem dX5_brake_13 : decode cX5_brake 13 = .ok (.iconst 1, 1) := by decide +kernel
theorem dX5_brake_14 : decode cX5_brake 14 = .ok (.putfield 38, 3) := by decide +kernel
theorem dX5_brake_17 : decode cX5_brake 17 = .ok (.aload_n 0, 1) := by decide +kernel
theorem dX5_brake_18 : decode cX5_brake 18 = .ok (.getfield 38, 3) := by decide +kernel
theorem dX5_brake_21 : decode cX5_brake 21 = .ok (.ifCond .eq 5, 3) := by decide +kernel
theorem dX5_brake_24 : decode cX5_brake 24 = .ok (.iconst 0, 1) := by decide +kernel
theorem dX5_brake_25 : decode cX5_brake 25 = .ok (.ireturn, 1) := by decide +kernel
theorem dX5_brake_26 : decode cX5_brake 26 = .ok (.aload_n 0, 1) := by decide +kernel
theorem dX5_brake_27 : decode cX5_brake 27 = .ok (.iload_n 1, 1) := by decide +kernel
theorem dX5_brake_28 : decode cX5_brake 28 = .ok (.iconst 4, 1) := by decide +kernel
theorem dX5_brake_29 : decode cX5_brake 29 = .ok (.invokevirtual 67, 3) := by decide +kernel
theorem dX5_brake_32 : decode cX5_brake 32 = .ok (.iconst 1, 1) := by decide +kernel
theorem dX5_brake_33 : decode cX5_brake 33 = .ok (.if_icmp .ne 7, 3) := by decide +kernel
theorem dX5_brake_36 : decode cX5_brake 36 = .ok (.iconst 1, 1) := by decide +kernel
theorem dX5_brake_37 : decode cX5_brake 37 = .ok (.goto 4, 3) := by decide +kernel
theorem dX5_brake_40 : decode cX5_brake 40 = .ok (.iconst 0, 1) := by decide +kernel
theorem dX5_brake_41 : decode cX5_brake 41 = .ok (.istore_n 3, 1) := by decide +kernel
theorem dX5_brake_42 : decode cX5_brake 42 = .ok (.aload_n 0, 1) := by decide +kernel
theorem dX5_brake_43 : decode cX5_brake 43 = .ok (.getfield 9, 3) := by decide +kernel
theorem dX5_brake_46 : decode cX5_brake 46 = .ok (.iconst 5, 1) := by decide +kernel
theorem dX5_brake_47 : decode cX5_brake 47 = .ok (.iload_n 1, 1) := by decide +kernel
theorem dX5_brake_48 : decode cX5_brake 48 = .ok (.imul, 1) := by decide +kernel
theorem dX5_brake_49 : decode cX5_brake 49 = .ok (.iconst 4, 1) := by decide +kernel
theorem dX5_brake_50 : decode cX5_brake 50 = .ok (.iadd, 1) := by decide +kernel
theorem dX5_brake_51 : decode cX5_brake 51 = .ok (.iload_n 2, 1) := by decide +kernel
theorem dX5_brake_52 : decode cX5_brake 52 = .ok (.ifCond .eq 7, 3) := by decide +kernel
theorem dX5_brake_55 : decode cX5_brake 55 = .ok (.iconst 1, 1) := by decide +kernel
theorem dX5_brake_56 : decode cX5_brake 56 = .ok (.goto 4, 3) := by decide +kernel
theorem dX5_brake_59 : decode cX5_brake 59 = .ok (.iconst 0, 1) := by decide +kernel
theorem dX5_brake_60 : decode cX5_brake 60 = .ok (.iastore, 1) := by decide +kernel
theorem dX5_brake_61 : decode cX5_brake 61 = .ok (.iload_n 3, 1) := by decide +kernel
theorem dX5_brake_62 : decode cX5_brake 62 = .ok (.ireturn, 1) := by decide +kernel
theorem dX5_pairs_0 : decode cX5_pairs 0 = .ok (.iconst 0, 1) := by decide +kernel
theorem dX5_pairs_1 : decode cX5_pairs 1 = .ok (.istore_n 1, 1) := by decide +kernel
theorem dX5_pairs_2 : decode cX5_pairs 2 = .ok (.iconst 0, 1) := by decide +kernel
theorem dX5_pairs_3 : decode cX5_pairs 3 = .ok (.istore_n 2, 1) := by decide +kernel
theorem dX5_pairs_4 : decode cX5_pairs 4 = .ok (.iload_n 2, 1) := by decide +kernel
theorem dX5_pairs_5 : decode cX5_pairs 5 = .ok (.bipush 16, 2) := by decide +kernel
theorem dX5_pairs_7 : decode cX5_pairs 7 = .ok (.if_icmp .ge 26, 3) := by decide +kernel
theorem dX5_pairs_10 : decode cX5_pairs 10 = .ok (.iload_n 1, 1) := by decide +kernel
theorem dX5_pairs_11 : decode cX5_pairs 11 = .ok (.aload_n 0, 1) := by decide +kernel
theorem dX5_pairs_12 : decode cX5_pairs 12 = .ok (.getfield 16, 3) := by decide +kernel
theorem dX5_pairs_15 : decode cX5_pairs 15 = .ok (.iload_n 2, 1) := by decide +kernel
theorem dX5_pairs_16 : decode cX5_pairs 16 = .ok (.baload, 1) := by decide +kernel
theorem dX5_pairs_17 : decode cX5_pairs 17 = .ok (.ifCond .eq 7, 3) := by decide +kernel
theorem dX5_pairs_20 : decode cX5_pairs 20 = .ok (.iconst 1, 1) := by decide +kernel
theorem dX5_pairs_21 : decode cX5_pairs 21 = .ok (.goto 4, 3) := by decide +kernel
theorem dX5_pairs_24 : decode cX5_pairs 24 = .ok (.iconst 0, 1) := by decide +kernel
theorem dX5_pairs_25 : decode cX5_pairs 25 = .ok (.iadd, 1) := by decide +kernel
theorem dX5_pairs_26 : decode cX5_pairs 26 = .ok (.istore_n 1, 1) := by decide +kernel
theorem dX5_pairs_27 : decode cX5_pairs 27 = .ok (.iinc 2 1, 3) := by decide +kernel
theorem dX5_pairs_30 : decode cX5_pairs 30 = .ok (.goto (-26), 3) := by decide +kernel
theorem dX5_pairs_33 : decode cX5_pairs 33 = .ok (.iload_n 1, 1) := by decide +kernel
theorem dX5_pairs_34 : decode cX5_pairs 34 = .ok (.ireturn, 1) := by decide +kernel
theorem dX5_couple_0 : decode cX5_couple 0 = .ok (.aload_n 0, 1) := by decide +kernel
theorem dX5_couple_1 : decode cX5_couple 1 = .ok (.iconst 0, 1) := by decide +kernel
theorem dX5_couple_2 : decode cX5_couple 2 = .ok (.putfield 38, 3) := by decide +kernel
theorem dX5_couple_5 : decode cX5_couple 5 = .ok (.aload_n 0, 1) := by decide +kernel
theorem dX5_couple_6 : decode cX5_couple 6 = .ok (.iload_n 1, 1) := by decide +kernel
theorem dX5_couple_7 : decode cX5_couple 7 = .ok (.invokevirtual 56, 3) := by decide +kernel
theorem dX5_couple_10 : decode cX5_couple 10 = .ok (.ifCond .eq 11, 3) := by decide +kernel
theorem dX5_couple_13 : decode cX5_couple 13 = .ok (.aload_n 0, 1) := by decide +kernel
theorem dX5_couple_14 : decode cX5_couple 14 = .ok (.iload_n 2, 1) := by decide +kernel
theorem dX5_couple_15 : decode cX5_couple 15 = .ok (.invokevirtual 56, 3) := by decide +kernel
theorem dX5_couple_18 : decode cX5_couple 18 = .ok (.ifCond .ne 9, 3) := by decide +kernel
theorem dX5_couple_21 : decode cX5_couple 21 = .ok (.aload_n 0, 1) := by decide +kernel
theorem dX5_couple_22 : decode cX5_couple 22 = .ok (.iconst 1, 1) := by decide +kernel
theorem dX5_couple_23 : decode cX5_couple 23 = .ok (.invokevirtual 52, 3) := by decide +kernel
theorem dX5_couple_26 : decode cX5_couple 26 = .ok (.ireturn, 1) := by decide +kernel
theorem dX5_couple_27 : decode cX5_couple 27 = .ok (.iload_n 1, 1) := by decide +kernel
theorem dX5_couple_28 : decode cX5_couple 28 = .ok (.iload_n 2, 1) := by decide +kernel
theorem dX5_couple_29 : decode cX5_couple 29 = .ok (.if_icmp .ne 9, 3) := by decide +kernel
theorem dX5_couple_32 : decode cX5_couple 32 = .ok (.aload_n 0, 1) := by decide +kernel
theorem dX5_couple_33 : decode cX5_couple 33 = .ok (.iconst 2, 1) := by decide +kernel
theorem dX5_couple_34 : decode cX5_couple 34 = .ok (.invokevirtual 52, 3) := by decide +kernel
theorem dX5_couple_37 : decode cX5_couple 37 = .ok (.ireturn, 1) := by decide +kernel
theorem dX5_couple_38 : decode cX5_couple 38 = .ok (.aload_n 0, 1) := by decide +kernel
theorem dX5_couple_39 : decode cX5_couple 39 = .ok (.getfield 16, 3) := by decide +kernel
theorem dX5_couple_42 : decode cX5_couple 42 = .ok (.iconst 4, 1) := by decide +kernel
theorem dX5_couple_43 : decode cX5_couple 43 = .ok (.iload_n 1, 1) := by decide +kernel
theorem dX5_couple_44 : decode cX5_couple 44 = .ok (.iload_n 2, 1) := by decide +kernel
theorem dX5_couple_45 : decode cX5_couple 45 = .ok (.invokestatic 61, 3) := by decide +kernel
theorem dX5_couple_48 : decode cX5_couple 48 = .ok (.imul, 1) := by decide +kernel
theorem dX5_couple_49 : decode cX5_couple 49 = .ok (.iload_n 1, 1) := by decide +kernel
theorem dX5_couple_50 : decode cX5_couple 50 = .ok (.iload_n 2, 1) := by decide +kernel
theorem dX5_couple_51 : decode cX5_couple 51 = .ok (.invokestatic 70, 3) := by decide +kernel
theorem dX5_couple_54 : decode cX5_couple 54 = .ok (.iadd, 1) := by decide +kernel
theorem dX5_couple_55 : decode cX5_couple 55 = .ok (.iload_n 3, 1) := by decide +kernel
theorem dX5_couple_56 : decode cX5_couple 56 = .ok (.bastore, 1) := by decide +kernel
theorem dX5_couple_57 : decode cX5_couple 57 = .ok (.aload_n 0, 1) := by decide +kernel
theorem dX5_couple_58 : decode cX5_couple 58 = .ok (.invokevirtual 73, 3) := by decide +kernel
theorem dX5_couple_61 : decode cX5_couple 61 = .ok (.ireturn, 1) := by decide +kernel
theorem dX5_load_0 : decode cX5_load 0 = .ok (.bipush 10, 2) := by decide +kernel
theorem dX5_load_2 : decode cX5_load 2 = .ok (.istore_n 2, 1) := by decide +kernel
theorem dX5_load_3 : decode cX5_load 3 = .ok (.iconst 0, 1) := by decide +kernel
theorem dX5_load_4 : decode cX5_load 4 = .ok (.istore_n 3, 1) := by decide +kernel
theorem dX5_load_5 : decode cX5_load 5 = .ok (.iload_n 3, 1) := by decide +kernel
theorem dX5_load_6 : decode cX5_load 6 = .ok (.aload_n 0, 1) := by decide +kernel
theorem dX5_load_7 : decode cX5_load 7 = .ok (.getfield 49, 3) := by decide +kernel
theorem dX5_load_10 : decode cX5_load 10 = .ok (.if_icmp .ge 82, 3) := by decide +kernel
theorem dX5_load_13 : decode cX5_load 13 = .ok (.aload_n 0, 1) := by decide +kernel
theorem dX5_load_14 : decode cX5_load 14 = .ok (.iload_n 3, 1) := by decide +kernel
theorem dX5_load_15 : decode cX5_load 15 = .ok (.iconst 0, 1) := by decide +kernel
theorem dX5_load_16 : decode cX5_load 16 = .ok (.invokevirtual 77, 3) := by decide +kernel
theorem dX5_load_19 : decode cX5_load 19 = .ok (.iload_n 1, 1) := by decide +kernel
theorem dX5_load_20 : decode cX5_load 20 = .ok (.if_icmp .ne 66, 3) := by decide +kernel
theorem dX5_load_23 : decode cX5_load 23 = .ok (.aload_n 0, 1) := by decide +kernel
theorem dX5_load_24 : decode cX5_load 24 = .ok (.iload_n 3, 1) := by decide +kernel
theorem dX5_load_25 : decode cX5_load 25 = .ok (.bipush 6, 2) := by decide +kernel
theorem dX5_load_27 : decode cX5_load 27 = .ok (.invokevirtual 77, 3) := by decide +kernel
theorem dX5_load_30 : decode cX5_load 30 = .ok (.ifCond .ne 6, 3) := by decide +kernel
theorem dX5_load_33 : decode cX5_load 33 = .ok (.goto 53, 3) := by decide +kernel
theorem dX5_load_36 : decode cX5_load 36 = .ok (.iconst 0, 1) := by decide +kernel
theorem dX5_load_37 : decode cX5_load 37 = .ok (.istore 4, 2) := by decide +kernel
theorem dX5_load_39 : decode cX5_load 39 = .ok (.iconst 0, 1) := by decide +kernel
theorem dX5_load_40 : decode cX5_load 40 = .ok (.istore 5, 2) := by decide +kernel
theorem dX5_load_42 : decode cX5_load 42 = .ok (.iload 5, 2) := by decide +kernel
theorem dX5_load_44 : decode cX5_load 44 = .ok (.iconst 3, 1) := by decide +kernel
theorem dX5_load_45 : decode cX5_load 45 = .ok (.if_icmp .ge 27, 3) := by decide +kernel
theorem dX5_load_48 : decode cX5_load 48 = .ok (.iload 4, 2) := by decide +kernel
theorem dX5_load_50 : decode cX5_load 50 = .ok (.aload_n 0, 1) := by decide +kernel
theorem dX5_load_51 : decode cX5_load 51 = .ok (.iload_n 3, 1) := by decide +kernel
theorem dX5_load_52 : decode cX5_load 52 = .ok (.iload 5, 2) := by decide +kernel
theorem dX5_load_54 : decode cX5_load 54 = .ok (.aload_n 0, 1) := by decide +kernel
theorem dX5_load_55 : decode cX5_load 55 = .ok (.iload_n 3, 1) := by decide +kernel
theorem dX5_load_56 : decode cX5_load 56 = .ok (.iconst 5, 1) := by decide +kernel
theorem dX5_load_57 : decode cX5_load 57 = .ok (.invokevirtual 77, 3) := by decide +kernel
theorem dX5_load_60 : decode cX5_load 60 = .ok (.invokevirtual 80, 3) := by decide +kernel
theorem dX5_load_63 : decode cX5_load 63 = .ok (.iadd, 1) := by decide +kernel
theorem dX5_load_64 : decode cX5_load 64 = .ok (.istore 4, 2) := by decide +kernel
theorem dX5_load_66 : decode cX5_load 66 = .ok (.iinc 5 1, 3) := by decide +kernel
theorem dX5_load_69 : decode cX5_load 69 = .ok (.goto (-27), 3) := by decide +kernel
theorem dX5_load_72 : decode cX5_load 72 = .ok (.iload_n 2, 1) := by decide +kernel
theorem dX5_load_73 : decode cX5_load 73 = .ok (.aload_n 0, 1) := by decide +kernel
theorem dX5_load_74 : decode cX5_load 74 = .ok (.iload_n 3, 1) := by decide +kernel
theorem dX5_load_75 : decode cX5_load 75 = .ok (.iconst 1, 1) := by decide +kernel
theorem dX5_load_76 : decode cX5_load 76 = .ok (.invokevirtual 77, 3) := by decide +kernel
theorem dX5_load_79 : decode cX5_load 79 = .ok (.iload 4, 2) := by decide +kernel
theorem dX5_load_81 : decode cX5_load 81 = .ok (.iconst 5, 1) := by decide +kernel
theorem dX5_load_82 : decode cX5_load 82 = .ok (.idiv, 1) := by decide +kernel
theorem dX5_load_83 : decode cX5_load 83 = .ok (.iadd, 1) := by decide +kernel
theorem dX5_load_84 : decode cX5_load 84 = .ok (.iadd, 1) := by decide +kernel
theorem dX5_load_85 : decode cX5_load 85 = .ok (.istore_n 2, 1) := by decide +kernel
theorem dX5_load_86 : decode cX5_load 86 = .ok (.iinc 3 1, 3) := by decide +kernel
theorem dX5_load_89 : decode cX5_load 89 = .ok (.goto (-84), 3) := by decide +kernel
theorem dX5_load_92 : decode cX5_load 92 = .ok (.iload_n 2, 1) := by decide +kernel
theorem dX5_load_93 : decode cX5_load 93 = .ok (.ireturn, 1) := by decide +kernel
theorem dX5_springTold_0 : decode cX5_springTold 0 = .ok (.iload_n 2, 1) := by decide +kernel
theorem dX5_springTold_1 : decode cX5_springTold 1 = .ok (.iconst 5, 1) := by decide +kernel
theorem dX5_springTold_2 : decode cX5_springTold 2 = .ok (.if_icmp .ge 10, 3) := by decide +kernel
theorem dX5_springTold_5 : decode cX5_springTold 5 = .ok (.aload_n 0, 1) := by decide +kernel
theorem dX5_springTold_6 : decode cX5_springTold 6 = .ok (.iload_n 1, 1) := by decide +kernel
theorem dX5_springTold_7 : decode cX5_springTold 7 = .ok (.iload_n 2, 1) := by decide +kernel
theorem dX5_springTold_8 : decode cX5_springTold 8 = .ok (.invokevirtual 67, 3) := by decide +kernel
theorem dX5_springTold_11 : decode cX5_springTold 11 = .ok (.ireturn, 1) := by decide +kernel
theorem dX5_springTold_12 : decode cX5_springTold 12 = .ok (.iload_n 2, 1) := by decide +kernel
theorem dX5_springTold_13 : decode cX5_springTold 13 = .ok (.bipush 6, 2) := by decide +kernel
theorem dX5_springTold_15 : decode cX5_springTold 15 = .ok (.if_icmp .ne 9, 3) := by decide +kernel
theorem dX5_springTold_18 : decode cX5_springTold 18 = .ok (.aload_n 0, 1) := by decide +kernel
theorem dX5_springTold_19 : decode cX5_springTold 19 = .ok (.iload_n 1, 1) := by decide +kernel
theorem dX5_springTold_20 : decode cX5_springTold 20 = .ok (.invokevirtual 84, 3) := by decide +kernel
theorem dX5_springTold_23 : decode cX5_springTold 23 = .ok (.ireturn, 1) := by decide +kernel
theorem dX5_springTold_24 : decode cX5_springTold 24 = .ok (.iconst 0, 1) := by decide +kernel
theorem dX5_springTold_25 : decode cX5_springTold 25 = .ok (.istore_n 3, 1) := by decide +kernel
theorem dX5_springTold_26 : decode cX5_springTold 26 = .ok (.iconst 0, 1) := by decide +kernel
theorem dX5_springTold_27 : decode cX5_springTold 27 = .ok (.istore 4, 2) := by decide +kernel
theorem dX5_springTold_29 : decode cX5_springTold 29 = .ok (.iload 4, 2) := by decide +kernel
theorem dX5_springTold_31 : decode cX5_springTold 31 = .ok (.aload_n 0, 1) := by decide +kernel
theorem dX5_springTold_32 : decode cX5_springTold 32 = .ok (.getfield 49, 3) := by decide +kernel
theorem dX5_springTold_35 : decode cX5_springTold 35 = .ok (.if_icmp .ge 35, 3) := by decide +kernel
theorem dX5_springTold_38 : decode cX5_springTold 38 = .ok (.iload_n 3, 1) := by decide +kernel
theorem dX5_springTold_39 : decode cX5_springTold 39 = .ok (.aload_n 0, 1) := by decide +kernel
theorem dX5_springTold_40 : decode cX5_springTold 40 = .ok (.iload 4, 2) := by decide +kernel
theorem dX5_springTold_42 : decode cX5_springTold 42 = .ok (.iconst 0, 1) := by decide +kernel
theorem dX5_springTold_43 : decode cX5_springTold 43 = .ok (.invokevirtual 77, 3) := by decide +kernel
theorem dX5_springTold_46 : decode cX5_springTold 46 = .ok (.iload_n 1, 1) := by decide +kernel
theorem dX5_springTold_47 : decode cX5_springTold 47 = .ok (.if_icmp .ne 14, 3) := by decide +kernel
theorem dX5_springTold_50 : decode cX5_springTold 50 = .ok (.aload_n 0, 1) := by decide +kernel
theorem dX5_springTold_51 : decode cX5_springTold 51 = .ok (.iload 4, 2) := by decide +kernel
theorem dX5_springTold_53 : decode cX5_springTold 53 = .ok (.bipush 6, 2) := by decide +kernel
theorem dX5_springTold_55 : decode cX5_springTold 55 = .ok (.invokevirtual 77, 3) := by decide +kernel
theorem dX5_springTold_58 : decode cX5_springTold 58 = .ok (.goto 4, 3) := by decide +kernel
theorem dX5_springTold_61 : decode cX5_springTold 61 = .ok (.iconst 0, 1) := by decide +kernel
theorem dX5_springTold_62 : decode cX5_springTold 62 = .ok (.iadd, 1) := by decide +kernel
theorem dX5_springTold_63 : decode cX5_springTold 63 = .ok (.istore_n 3, 1) := by decide +kernel
theorem dX5_springTold_64 : decode cX5_springTold 64 = .ok (.iinc 4 1, 3) := by decide +kernel
theorem dX5_springTold_67 : decode cX5_springTold 67 = .ok (.goto (-38), 3) := by decide +kernel
theorem dX5_springTold_70 : decode cX5_springTold 70 = .ok (.iload_n 3, 1) := by decide +kernel
theorem dX5_springTold_71 : decode cX5_springTold 71 = .ok (.ireturn, 1) := by decide +kernel
theorem dX5_spring_0 : decode cX5_spring 0 = .ok (.aload_n 0, 1) := by decide +kernel
theorem dX5_spring_1 : decode cX5_spring 1 = .ok (.iconst 0, 1) := by decide +kernel
theorem dX5_spring_2 : decode cX5_spring 2 = .ok (.putfield 38, 3) := by decide +kernel
theorem dX5_spring_5 : decode cX5_spring 5 = .ok (.aload_n 0, 1) := by decide +kernel
theorem dX5_spring_6 : decode cX5_spring 6 = .ok (.iload_n 1, 1) := by decide +kernel
theorem dX5_spring_7 : decode cX5_spring 7 = .ok (.invokevirtual 56, 3) := by decide +kernel
theorem dX5_spring_10 : decode cX5_spring 10 = .ok (.ifCond .eq 22, 3) := by decide +kernel
theorem dX5_spring_13 : decode cX5_spring 13 = .ok (.iload_n 2, 1) := by decide +kernel
theorem dX5_spring_14 : decode cX5_spring 14 = .ok (.iconst 0, 1) := by decide +kernel
theorem dX5_spring_15 : decode cX5_spring 15 = .ok (.bipush 6, 2) := by decide +kernel
theorem dX5_spring_17 : decode cX5_spring 17 = .ok (.invokestatic 45, 3) := by decide +kernel
theorem dX5_spring_20 : decode cX5_spring 20 = .ok (.ifCond .eq 12, 3) := by decide +kernel
theorem dX5_spring_23 : decode cX5_spring 23 = .ok (.aload_n 0, 1) := by decide +kernel
theorem dX5_spring_24 : decode cX5_spring 24 = .ok (.iload_n 1, 1) := by decide +kernel
theorem dX5_spring_25 : decode cX5_spring 25 = .ok (.iload_n 2, 1) := by decide +kernel
theorem dX5_spring_26 : decode cX5_spring 26 = .ok (.invokevirtual 87, 3) := by decide +kernel
theorem dX5_spring_29 : decode cX5_spring 29 = .ok (.goto 8, 3) := by decide +kernel
theorem dX5_spring_32 : decode cX5_spring 32 = .ok (.aload_n 0, 1) := by decide +kernel
theorem dX5_spring_33 : decode cX5_spring 33 = .ok (.iconst 1, 1) := by decide +kernel
theorem dX5_spring_34 : decode cX5_spring 34 = .ok (.invokevirtual 52, 3) := by decide +kernel
theorem dX5_spring_37 : decode cX5_spring 37 = .ok (.ireturn, 1) := by decide +kernel
theorem dX5_addBird_0 : decode cX5_addBird 0 = .ok (.aload_n 0, 1) := by decide +kernel
theorem dX5_addBird_1 : decode cX5_addBird 1 = .ok (.iconst 0, 1) := by decide +kernel
theorem dX5_addBird_2 : decode cX5_addBird 2 = .ok (.putfield 38, 3) := by decide +kernel
theorem dX5_addBird_5 : decode cX5_addBird 5 = .ok (.aload_n 0, 1) := by decide +kernel
theorem dX5_addBird_6 : decode cX5_addBird 6 = .ok (.iload_n 1, 1) := by decide +kernel
theorem dX5_addBird_7 : decode cX5_addBird 7 = .ok (.invokevirtual 56, 3) := by decide +kernel
theorem dX5_addBird_10 : decode cX5_addBird 10 = .ok (.ifCond .ne 9, 3) := by decide +kernel
theorem dX5_addBird_13 : decode cX5_addBird 13 = .ok (.aload_n 0, 1) := by decide +kernel
theorem dX5_addBird_14 : decode cX5_addBird 14 = .ok (.iconst 1, 1) := by decide +kernel
theorem dX5_addBird_15 : decode cX5_addBird 15 = .ok (.invokevirtual 52, 3) := by decide +kernel
theorem dX5_addBird_18 : decode cX5_addBird 18 = .ok (.ireturn, 1) := by decide +kernel
theorem dX5_addBird_19 : decode cX5_addBird 19 = .ok (.iload_n 2, 1) := by decide +kernel
theorem dX5_addBird_20 : decode cX5_addBird 20 = .ok (.iconst 0, 1) := by decide +kernel
theorem dX5_addBird_21 : decode cX5_addBird 21 = .ok (.bipush 20, 2) := by decide +kernel
theorem dX5_addBird_23 : decode cX5_addBird 23 = .ok (.invokestatic 45, 3) := by decide +kernel
theorem dX5_addBird_26 : decode cX5_addBird 26 = .ok (.ifCond .eq 36, 3) := by decide +kernel
theorem dX5_addBird_29 : decode cX5_addBird 29 = .ok (.iload_n 3, 1) := by decide +kernel
theorem dX5_addBird_30 : decode cX5_addBird 30 = .ok (.bipush 8, 2) := by decide +kernel
theorem dX5_addBird_32 : decode cX5_addBird 32 = .ok (.bipush 96, 2) := by decide +kernel
theorem dX5_addBird_34 : decode cX5_addBird 34 = .ok (.invokestatic 45, 3) := by decide +kernel
theorem dX5_addBird_37 : decode cX5_addBird 37 = .ok (.ifCond .eq 25, 3) := by decide +kernel
theorem dX5_addBird_40 : decode cX5_addBird 40 = .ok (.iload 4, 2) := by decide +kernel
theorem dX5_addBird_42 : decode cX5_addBird 42 = .ok (.iconst 1, 1) := by decide +kernel
theorem dX5_addBird_43 : decode cX5_addBird 43 = .ok (.bipush 12, 2) := by decide +kernel
theorem dX5_addBird_45 : decode cX5_addBird 45 = .ok (.invokestatic 45, 3) := by decide +kernel
theorem dX5_addBird_48 : decode cX5_addBird 48 = .ok (.ifCond .eq 14, 3) := by decide +kernel
theorem dX5_addBird_51 : decode cX5_addBird 51 = .ok (.iload 5, 2) := by decide +kernel
theorem dX5_addBird_53 : decode cX5_addBird 53 = .ok (.iconst 1, 1) := by decide +kernel
theorem dX5_addBird_54 : decode cX5_addBird 54 = .ok (.bipush 12, 2) := by decide +kernel
theorem dX5_addBird_56 : decode cX5_addBird 56 = .ok (.invokestatic 45, 3) := by decide +kernel
theorem dX5_addBird_59 : decode cX5_addBird 59 = .ok (.ifCond .ne 9, 3) := by decide +kernel
theorem dX5_addBird_62 : decode cX5_addBird 62 = .ok (.aload_n 0, 1) := by decide +kernel
theorem dX5_addBird_63 : decode cX5_addBird 63 = .ok (.iconst 2, 1) := by decide +kernel
theorem dX5_addBird_64 : decode cX5_addBird 64 = .ok (.invokevirtual 52, 3) := by decide +kernel
theorem dX5_addBird_67 : decode cX5_addBird 67 = .ok (.ireturn, 1) := by decide +kernel
theorem dX5_addBird_68 : decode cX5_addBird 68 = .ok (.aload_n 0, 1) := by decide +kernel
theorem dX5_addBird_69 : decode cX5_addBird 69 = .ok (.getfield 49, 3) := by decide +kernel
theorem dX5_addBird_72 : decode cX5_addBird 72 = .ok (.bipush 8, 2) := by decide +kernel
theorem dX5_addBird_74 : decode cX5_addBird 74 = .ok (.if_icmp .ne 9, 3) := by decide +kernel
theorem dX5_addBird_77 : decode cX5_addBird 77 = .ok (.aload_n 0, 1) := by decide +kernel
theorem dX5_addBird_78 : decode cX5_addBird 78 = .ok (.iconst 3, 1) := by decide +kernel
theorem dX5_addBird_79 : decode cX5_addBird 79 = .ok (.invokevirtual 52, 3) := by decide +kernel
theorem dX5_addBird_82 : decode cX5_addBird 82 = .ok (.ireturn, 1) := by decide +kernel
theorem dX5_addBird_83 : decode cX5_addBird 83 = .ok (.bipush 11, 2) := by decide +kernel
theorem dX5_addBird_85 : decode cX5_addBird 85 = .ok (.newarray .int, 2) := by decide +kernel
theorem dX5_addBird_87 : decode cX5_addBird 87 = .ok (.dup, 1) := by decide +kernel
theorem dX5_addBird_88 : decode cX5_addBird 88 = .ok (.iconst 0, 1) := by decide +kernel
theorem dX5_addBird_89 : decode cX5_addBird 89 = .ok (.iload_n 1, 1) := by decide +kernel
theorem dX5_addBird_90 : decode cX5_addBird 90 = .ok (.iastore, 1) := by decide +kernel
theorem dX5_addBird_91 : decode cX5_addBird 91 = .ok (.dup, 1) := by decide +kernel
theorem dX5_addBird_92 : decode cX5_addBird 92 = .ok (.iconst 1, 1) := by decide +kernel
theorem dX5_addBird_93 : decode cX5_addBird 93 = .ok (.iload_n 2, 1) := by decide +kernel
theorem dX5_addBird_94 : decode cX5_addBird 94 = .ok (.iastore, 1) := by decide +kernel
theorem dX5_addBird_95 : decode cX5_addBird 95 = .ok (.dup, 1) := by decide +kernel
theorem dX5_addBird_96 : decode cX5_addBird 96 = .ok (.iconst 2, 1) := by decide +kernel
theorem dX5_addBird_97 : decode cX5_addBird 97 = .ok (.iload_n 3, 1) := by decide +kernel
theorem dX5_addBird_98 : decode cX5_addBird 98 = .ok (.iastore, 1) := by decide +kernel
theorem dX5_addBird_99 : decode cX5_addBird 99 = .ok (.dup, 1) := by decide +kernel
theorem dX5_addBird_100 : decode cX5_addBird 100 = .ok (.iconst 3, 1) := by decide +kernel
theorem dX5_addBird_101 : decode cX5_addBird 101 = .ok (.iload 4, 2) := by decide +kernel
theorem dX5_addBird_103 : decode cX5_addBird 103 = .ok (.iastore, 1) := by decide +kernel
theorem dX5_addBird_104 : decode cX5_addBird 104 = .ok (.dup, 1) := by decide +kernel
theorem dX5_addBird_105 : decode cX5_addBird 105 = .ok (.iconst 4, 1) := by decide +kernel
theorem dX5_addBird_106 : decode cX5_addBird 106 = .ok (.iload 5, 2) := by decide +kernel
theorem dX5_addBird_108 : decode cX5_addBird 108 = .ok (.iastore, 1) := by decide +kernel
theorem dX5_addBird_109 : decode cX5_addBird 109 = .ok (.dup, 1) := by decide +kernel
theorem dX5_addBird_110 : decode cX5_addBird 110 = .ok (.iconst 5, 1) := by decide +kernel
theorem dX5_addBird_111 : decode cX5_addBird 111 = .ok (.iconst 0, 1) := by decide +kernel
theorem dX5_addBird_112 : decode cX5_addBird 112 = .ok (.iastore, 1) := by decide +kernel
theorem dX5_addBird_113 : decode cX5_addBird 113 = .ok (.dup, 1) := by decide +kernel
theorem dX5_addBird_114 : decode cX5_addBird 114 = .ok (.bipush 6, 2) := by decide +kernel
theorem dX5_addBird_116 : decode cX5_addBird 116 = .ok (.iconst 1, 1) := by decide +kernel
theorem dX5_addBird_117 : decode cX5_addBird 117 = .ok (.iastore, 1) := by decide +kernel
theorem dX5_addBird_118 : decode cX5_addBird 118 = .ok (.dup, 1) := by decide +kernel
theorem dX5_addBird_119 : decode cX5_addBird 119 = .ok (.bipush 7, 2) := by decide +kernel
theorem dX5_addBird_121 : decode cX5_addBird 121 = .ok (.iconst 0, 1) := by decide +kernel
theorem dX5_addBird_122 : decode cX5_addBird 122 = .ok (.iastore, 1) := by decide +kernel
theorem dX5_addBird_123 : decode cX5_addBird 123 = .ok (.dup, 1) := by decide +kernel
theorem dX5_addBird_124 : decode cX5_addBird 124 = .ok (.bipush 8, 2) := by decide +kernel
theorem dX5_addBird_126 : decode cX5_addBird 126 = .ok (.iconst 0, 1) := by decide +kernel
theorem dX5_addBird_127 : decode cX5_addBird 127 = .ok (.iastore, 1) := by decide +kernel
theorem dX5_addBird_128 : decode cX5_addBird 128 = .ok (.dup, 1) := by decide +kernel
theorem dX5_addBird_129 : decode cX5_addBird 129 = .ok (.bipush 9, 2) := by decide +kernel
theorem dX5_addBird_131 : decode cX5_addBird 131 = .ok (.iconst 0, 1) := by decide +kernel
theorem dX5_addBird_132 : decode cX5_addBird 132 = .ok (.iastore, 1) := by decide +kernel
theorem dX5_addBird_133 : decode cX5_addBird 133 = .ok (.dup, 1) := by decide +kernel
theorem dX5_addBird_134 : decode cX5_addBird 134 = .ok (.bipush 10, 2) := by decide +kernel
theorem dX5_addBird_136 : decode cX5_addBird 136 = .ok (.aload_n 0, 1) := by decide +kernel
theorem dX5_addBird_137 : decode cX5_addBird 137 = .ok (.iload_n 1, 1) := by decide +kernel
theorem dX5_addBird_138 : decode cX5_addBird 138 = .ok (.iconst 2, 1) := by decide +kernel
theorem dX5_addBird_139 : decode cX5_addBird 139 = .ok (.invokevirtual 67, 3) := by decide +kernel
theorem dX5_addBird_142 : decode cX5_addBird 142 = .ok (.iastore, 1) := by decide +kernel
theorem dX5_addBird_143 : decode cX5_addBird 143 = .ok (.astore 6, 2) := by decide +kernel
theorem dX5_addBird_145 : decode cX5_addBird 145 = .ok (.aload 6, 2) := by decide +kernel
theorem dX5_addBird_147 : decode cX5_addBird 147 = .ok (.iconst 0, 1) := by decide +kernel
theorem dX5_addBird_148 : decode cX5_addBird 148 = .ok (.aload_n 0, 1) := by decide +kernel
theorem dX5_addBird_149 : decode cX5_addBird 149 = .ok (.getfield 13, 3) := by decide +kernel
theorem dX5_addBird_152 : decode cX5_addBird 152 = .ok (.bipush 11, 2) := by decide +kernel
theorem dX5_addBird_154 : decode cX5_addBird 154 = .ok (.aload_n 0, 1) := by decide +kernel
theorem dX5_addBird_155 : decode cX5_addBird 155 = .ok (.getfield 49, 3) := by decide +kernel
theorem dX5_addBird_158 : decode cX5_addBird 158 = .ok (.imul, 1) := by decide +kernel
theorem dX5_addBird_159 : decode cX5_addBird 159 = .ok (.bipush 11, 2) := by decide +kernel
theorem dX5_addBird_161 : decode cX5_addBird 161 = .ok (.invokestatic 90, 3) := by decide +kernel
theorem dX5_addBird_164 : decode cX5_addBird 164 = .ok (.iconst 0, 1) := by decide +kernel
theorem dX5_addBird_165 : decode cX5_addBird 165 = .ok (.istore 7, 2) := by decide +kernel
theorem dX5_addBird_167 : decode cX5_addBird 167 = .ok (.iload 7, 2) := by decide +kernel
theorem dX5_addBird_169 : decode cX5_addBird 169 = .ok (.bipush 6, 2) := by decide +kernel
theorem dX5_addBird_171 : decode cX5_addBird 171 = .ok (.if_icmp .ge 31, 3) := by decide +kernel
theorem dX5_addBird_174 : decode cX5_addBird 174 = .ok (.aload_n 0, 1) := by decide +kernel
theorem dX5_addBird_175 : decode cX5_addBird 175 = .ok (.getfield 23, 3) := by decide +kernel
theorem dX5_addBird_178 : decode cX5_addBird 178 = .ok (.bipush 6, 2) := by decide +kernel
theorem dX5_addBird_180 : decode cX5_addBird 180 = .ok (.aload_n 0, 1) := by decide +kernel
theorem dX5_addBird_181 : decode cX5_addBird 181 = .ok (.getfield 49, 3) := by decide +kernel
theorem dX5_addBird_184 : decode cX5_addBird 184 = .ok (.imul, 1) := by decide +kernel
theorem dX5_addBird_185 : decode cX5_addBird 185 = .ok (.iload 7, 2) := by decide +kernel
theorem dX5_addBird_187 : decode cX5_addBird 187 = .ok (.iadd, 1) := by decide +kernel
theorem dX5_addBird_188 : decode cX5_addBird 188 = .ok (.bipush 60, 2) := by decide +kernel
theorem dX5_addBird_190 : decode cX5_addBird 190 = .ok (.iconst 2, 1) := by decide +kernel
theorem dX5_addBird_191 : decode cX5_addBird 191 = .ok (.iload 7, 2) := by decide +kernel
theorem dX5_addBird_193 : decode cX5_addBird 193 = .ok (.imul, 1) := by decide +kernel
theorem dX5_addBird_194 : decode cX5_addBird 194 = .ok (.iadd, 1) := by decide +kernel
theorem dX5_addBird_195 : decode cX5_addBird 195 = .ok (.iastore, 1) := by decide +kernel
theorem dX5_addBird_196 : decode cX5_addBird 196 = .ok (.iinc 7 1, 3) := by decide +kernel
theorem dX5_addBird_199 : decode cX5_addBird 199 = .ok (.goto (-32), 3) := by decide +kernel
theorem dX5_addBird_202 : decode cX5_addBird 202 = .ok (.iconst 0, 1) := by decide +kernel
theorem dX5_addBird_203 : decode cX5_addBird 203 = .ok (.istore 7, 2) := by decide +kernel
theorem dX5_addBird_205 : decode cX5_addBird 205 = .ok (.iload 7, 2) := by decide +kernel
theorem dX5_addBird_207 : decode cX5_addBird 207 = .ok (.sipush 288, 3) := by decide +kernel
theorem dX5_addBird_210 : decode cX5_addBird 210 = .ok (.if_icmp .ge 26, 3) := by decide +kernel
theorem dX5_addBird_213 : decode cX5_addBird 213 = .ok (.aload_n 0, 1) := by decide +kernel
theorem dX5_addBird_214 : decode cX5_addBird 214 = .ok (.getfield 26, 3) := by decide +kernel
theorem dX5_addBird_217 : decode cX5_addBird 217 = .ok (.sipush 288, 3) := by decide +kernel
theorem dX5_addBird_220 : decode cX5_addBird 220 = .ok (.aload_n 0, 1) := by decide +kernel
theorem dX5_addBird_221 : decode cX5_addBird 221 = .ok (.getfield 49, 3) := by decide +kernel
theorem dX5_addBird_224 : decode cX5_addBird 224 = .ok (.imul, 1) := by decide +kernel
theorem dX5_addBird_225 : decode cX5_addBird 225 = .ok (.iload 7, 2) := by decide +kernel
theorem dX5_addBird_227 : decode cX5_addBird 227 = .ok (.iadd, 1) := by decide +kernel
theorem dX5_addBird_228 : decode cX5_addBird 228 = .ok (.iconst (-1), 1) := by decide +kernel
theorem dX5_addBird_229 : decode cX5_addBird 229 = .ok (.iastore, 1) := by decide +kernel
theorem dX5_addBird_230 : decode cX5_addBird 230 = .ok (.iinc 7 1, 3) := by decide +kernel
theorem dX5_addBird_233 : decode cX5_addBird 233 = .ok (.goto (-28), 3) := by decide +kernel
theorem dX5_addBird_236 : decode cX5_addBird 236 = .ok (.aload_n 0, 1) := by decide +kernel
theorem dX5_addBird_237 : decode cX5_addBird 237 = .ok (.dup, 1) := by decide +kernel
theorem dX5_addBird_238 : decode cX5_addBird 238 = .ok (.getfield 49, 3) := by decide +kernel
theorem dX5_addBird_241 : decode cX5_addBird 241 = .ok (.iconst 1, 1) := by decide +kernel
theorem dX5_addBird_242 : decode cX5_addBird 242 = .ok (.iadd, 1) := by decide +kernel
theorem dX5_addBird_243 : decode cX5_addBird 243 = .ok (.putfield 49, 3) := by decide +kernel
theorem dX5_addBird_246 : decode cX5_addBird 246 = .ok (.aload_n 0, 1) := by decide +kernel
theorem dX5_addBird_247 : decode cX5_addBird 247 = .ok (.getfield 49, 3) := by decide +kernel
theorem dX5_addBird_250 : decode cX5_addBird 250 = .ok (.iconst 1, 1) := by decide +kernel
theorem dX5_addBird_251 : decode cX5_addBird 251 = .ok (.isub, 1) := by decide +kernel
theorem dX5_addBird_252 : decode cX5_addBird 252 = .ok (.ireturn, 1) := by decide +kernel
theorem dX5_engage_0 : decode cX5_engage 0 = .ok (.aload_n 0, 1) := by decide +kernel
theorem dX5_engage_1 : decode cX5_engage 1 = .ok (.aload_n 0, 1) := by decide +kernel
theorem dX5_engage_2 : decode cX5_engage 2 = .ok (.iload_n 1, 1) := by decide +kernel
theorem dX5_engage_3 : decode cX5_engage 3 = .ok (.invokevirtual 96, 3) := by decide +kernel
theorem dX5_engage_6 : decode cX5_engage 6 = .ok (.ifCond .eq 7, 3) := by decide +kernel
theorem dX5_engage_9 : decode cX5_engage 9 = .ok (.iconst 0, 1) := by decide +kernel
theorem dX5_engage_10 : decode cX5_engage 10 = .ok (.goto 4, 3) := by decide +kernel
theorem dX5_engage_13 : decode cX5_engage 13 = .ok (.iconst 1, 1) := by decide +kernel
theorem dX5_engage_14 : decode cX5_engage 14 = .ok (.putfield 38, 3) := by decide +kernel
theorem dX5_engage_17 : decode cX5_engage 17 = .ok (.aload_n 0, 1) := by decide +kernel
theorem dX5_engage_18 : decode cX5_engage 18 = .ok (.getfield 38, 3) := by decide +kernel
theorem dX5_engage_21 : decode cX5_engage 21 = .ok (.ifCond .eq 5, 3) := by decide +kernel
theorem dX5_engage_24 : decode cX5_engage 24 = .ok (.iconst 0, 1) := by decide +kernel
theorem dX5_engage_25 : decode cX5_engage 25 = .ok (.ireturn, 1) := by decide +kernel
theorem dX5_engage_26 : decode cX5_engage 26 = .ok (.aload_n 0, 1) := by decide +kernel
theorem dX5_engage_27 : decode cX5_engage 27 = .ok (.iload_n 1, 1) := by decide +kernel
theorem dX5_engage_28 : decode cX5_engage 28 = .ok (.bipush 6, 2) := by decide +kernel
theorem dX5_engage_30 : decode cX5_engage 30 = .ok (.invokevirtual 77, 3) := by decide +kernel
theorem dX5_engage_33 : decode cX5_engage 33 = .ok (.iconst 1, 1) := by decide +kernel
theorem dX5_engage_34 : decode cX5_engage 34 = .ok (.if_icmp .ne 7, 3) := by decide +kernel
theorem dX5_engage_37 : decode cX5_engage 37 = .ok (.iconst 1, 1) := by decide +kernel
theorem dX5_engage_38 : decode cX5_engage 38 = .ok (.goto 4, 3) := by decide +kernel
theorem dX5_engage_41 : decode cX5_engage 41 = .ok (.iconst 0, 1) := by decide +kernel
theorem dX5_engage_42 : decode cX5_engage 42 = .ok (.istore_n 3, 1) := by decide +kernel
theorem dX5_engage_43 : decode cX5_engage 43 = .ok (.iload_n 3, 1) := by decide +kernel
theorem dX5_engage_44 : decode cX5_engage 44 = .ok (.iload_n 2, 1) := by decide +kernel
theorem dX5_engage_45 : decode cX5_engage 45 = .ok (.if_icmp .ne 5, 3) := by decide +kernel
theorem dX5_engage_48 : decode cX5_engage 48 = .ok (.iload_n 3, 1) := by decide +kernel
theorem dX5_engage_49 : decode cX5_engage 49 = .ok (.ireturn, 1) := by decide +kernel
theorem dX5_engage_50 : decode cX5_engage 50 = .ok (.aload_n 0, 1) := by decide +kernel
theorem dX5_engage_51 : decode cX5_engage 51 = .ok (.iload_n 1, 1) := by decide +kernel
theorem dX5_engage_52 : decode cX5_engage 52 = .ok (.bipush 6, 2) := by decide +kernel
theorem dX5_engage_54 : decode cX5_engage 54 = .ok (.iload_n 2, 1) := by decide +kernel
theorem dX5_engage_55 : decode cX5_engage 55 = .ok (.ifCond .eq 7, 3) := by decide +kernel
theorem dX5_engage_58 : decode cX5_engage 58 = .ok (.iconst 1, 1) := by decide +kernel
theorem dX5_engage_59 : decode cX5_engage 59 = .ok (.goto 4, 3) := by decide +kernel
theorem dX5_engage_62 : decode cX5_engage 62 = .ok (.iconst 0, 1) := by decide +kernel
theorem dX5_engage_63 : decode cX5_engage 63 = .ok (.invokevirtual 99, 3) := by decide +kernel
theorem dX5_engage_66 : decode cX5_engage 66 = .ok (.iload_n 2, 1) := by decide +kernel
theorem dX5_engage_67 : decode cX5_engage 67 = .ok (.ifCond .ne 5, 3) := by decide +kernel
theorem dX5_engage_70 : decode cX5_engage 70 = .ok (.iconst 1, 1) := by decide +kernel
theorem dX5_engage_71 : decode cX5_engage 71 = .ok (.ireturn, 1) := by decide +kernel
theorem dX5_engage_72 : decode cX5_engage 72 = .ok (.aload_n 0, 1) := by decide +kernel
theorem dX5_engage_73 : decode cX5_engage 73 = .ok (.iload_n 1, 1) := by decide +kernel
theorem dX5_engage_74 : decode cX5_engage 74 = .ok (.iconst 5, 1) := by decide +kernel
theorem dX5_engage_75 : decode cX5_engage 75 = .ok (.iconst 0, 1) := by decide +kernel
theorem dX5_engage_76 : decode cX5_engage 76 = .ok (.invokevirtual 99, 3) := by decide +kernel
theorem dX5_engage_79 : decode cX5_engage 79 = .ok (.aload_n 0, 1) := by decide +kernel
theorem dX5_engage_80 : decode cX5_engage 80 = .ok (.iload_n 1, 1) := by decide +kernel
theorem dX5_engage_81 : decode cX5_engage 81 = .ok (.bipush 8, 2) := by decide +kernel
theorem dX5_engage_83 : decode cX5_engage 83 = .ok (.iconst 0, 1) := by decide +kernel
theorem dX5_engage_84 : decode cX5_engage 84 = .ok (.invokevirtual 99, 3) := by decide +kernel
theorem dX5_engage_87 : decode cX5_engage 87 = .ok (.aload_n 0, 1) := by decide +kernel
theorem dX5_engage_88 : decode cX5_engage 88 = .ok (.iload_n 1, 1) := by decide +kernel
theorem dX5_engage_89 : decode cX5_engage 89 = .ok (.bipush 10, 2) := by decide +kernel
theorem dX5_engage_91 : decode cX5_engage 91 = .ok (.aload_n 0, 1) := by decide +kernel
theorem dX5_engage_92 : decode cX5_engage 92 = .ok (.aload_n 0, 1) := by decide +kernel
theorem dX5_engage_93 : decode cX5_engage 93 = .ok (.iload_n 1, 1) := by decide +kernel
theorem dX5_engage_94 : decode cX5_engage 94 = .ok (.iconst 0, 1) := by decide +kernel
theorem dX5_engage_95 : decode cX5_engage 95 = .ok (.invokevirtual 77, 3) := by decide +kernel
theorem dX5_engage_98 : decode cX5_engage 98 = .ok (.iconst 2, 1) := by decide +kernel
theorem dX5_engage_99 : decode cX5_engage 99 = .ok (.invokevirtual 67, 3) := by decide +kernel
theorem dX5_engage_102 : decode cX5_engage 102 = .ok (.invokevirtual 99, 3) := by decide +kernel
theorem dX5_engage_105 : decode cX5_engage 105 = .ok (.iconst 0, 1) := by decide +kernel
theorem dX5_engage_106 : decode cX5_engage 106 = .ok (.ireturn, 1) := by decide +kernel
theorem dX5_pin_0 : decode cX5_pin 0 = .ok (.aload_n 0, 1) := by decide +kernel
theorem dX5_pin_1 : decode cX5_pin 1 = .ok (.iconst 0, 1) := by decide +kernel
theorem dX5_pin_2 : decode cX5_pin 2 = .ok (.putfield 38, 3) := by decide +kernel
theorem dX5_pin_5 : decode cX5_pin 5 = .ok (.aload_n 0, 1) := by decide +kernel
theorem dX5_pin_6 : decode cX5_pin 6 = .ok (.iload_n 1, 1) := by decide +kernel
theorem dX5_pin_7 : decode cX5_pin 7 = .ok (.invokevirtual 96, 3) := by decide +kernel
theorem dX5_pin_10 : decode cX5_pin 10 = .ok (.ifCond .ne 9, 3) := by decide +kernel
theorem dX5_pin_13 : decode cX5_pin 13 = .ok (.aload_n 0, 1) := by decide +kernel
theorem dX5_pin_14 : decode cX5_pin 14 = .ok (.iconst 1, 1) := by decide +kernel
theorem dX5_pin_15 : decode cX5_pin 15 = .ok (.invokevirtual 52, 3) := by decide +kernel
theorem dX5_pin_18 : decode cX5_pin 18 = .ok (.ireturn, 1) := by decide +kernel
theorem dX5_pin_19 : decode cX5_pin 19 = .ok (.iload_n 2, 1) := by decide +kernel
theorem dX5_pin_20 : decode cX5_pin 20 = .ok (.iconst 0, 1) := by decide +kernel
theorem dX5_pin_21 : decode cX5_pin 21 = .ok (.aload_n 0, 1) := by decide +kernel
theorem dX5_pin_22 : decode cX5_pin 22 = .ok (.iload_n 1, 1) := by decide +kernel
theorem dX5_pin_23 : decode cX5_pin 23 = .ok (.iconst 2, 1) := by decide +kernel
theorem dX5_pin_24 : decode cX5_pin 24 = .ok (.invokevirtual 77, 3) := by decide +kernel
theorem dX5_pin_27 : decode cX5_pin 27 = .ok (.iconst 1, 1) := by decide +kernel
theorem dX5_pin_28 : decode cX5_pin 28 = .ok (.isub, 1) := by decide +kernel
theorem dX5_pin_29 : decode cX5_pin 29 = .ok (.invokestatic 45, 3) := by decide +kernel
theorem dX5_pin_32 : decode cX5_pin 32 = .ok (.ifCond .eq 12, 3) := by decide +kernel
theorem dX5_pin_35 : decode cX5_pin 35 = .ok (.iload_n 3, 1) := by decide +kernel
theorem dX5_pin_36 : decode cX5_pin 36 = .ok (.iconst 0, 1) := by decide +kernel
theorem dX5_pin_37 : decode cX5_pin 37 = .ok (.iconst 5, 1) := by decide +kernel
theorem dX5_pin_38 : decode cX5_pin 38 = .ok (.invokestatic 45, 3) := by decide +kernel
theorem dX5_pin_41 : decode cX5_pin 41 = .ok (.ifCond .ne 9, 3) := by decide +kernel
theorem dX5_pin_44 : decode cX5_pin 44 = .ok (.aload_n 0, 1) := by decide +kernel
theorem dX5_pin_45 : decode cX5_pin 45 = .ok (.iconst 2, 1) := by decide +kernel
theorem dX5_pin_46 : decode cX5_pin 46 = .ok (.invokevirtual 52, 3) := by decide +kernel
theorem dX5_pin_49 : decode cX5_pin 49 = .ok (.ireturn, 1) := by decide +kernel
theorem dX5_pin_50 : decode cX5_pin 50 = .ok (.bipush 96, 2) := by decide +kernel
theorem dX5_pin_52 : decode cX5_pin 52 = .ok (.iload_n 1, 1) := by decide +kernel
theorem dX5_pin_53 : decode cX5_pin 53 = .ok (.imul, 1) := by decide +kernel
theorem dX5_pin_54 : decode cX5_pin 54 = .ok (.iload_n 2, 1) := by decide +kernel
theorem dX5_pin_55 : decode cX5_pin 55 = .ok (.iadd, 1) := by decide +kernel
theorem dX5_pin_56 : decode cX5_pin 56 = .ok (.istore 4, 2) := by decide +kernel
theorem dX5_pin_58 : decode cX5_pin 58 = .ok (.aload_n 0, 1) := by decide +kernel
theorem dX5_pin_59 : decode cX5_pin 59 = .ok (.getfield 20, 3) := by decide +kernel
theorem dX5_pin_62 : decode cX5_pin 62 = .ok (.iload 4, 2) := by decide +kernel
theorem dX5_pin_64 : decode cX5_pin 64 = .ok (.iaload, 1) := by decide +kernel
theorem dX5_pin_65 : decode cX5_pin 65 = .ok (.iload_n 3, 1) := by decide +kernel
theorem dX5_pin_66 : decode cX5_pin 66 = .ok (.ishr, 1) := by decide +kernel
theorem dX5_pin_67 : decode cX5_pin 67 = .ok (.iconst 1, 1) := by decide +kernel
theorem dX5_pin_68 : decode cX5_pin 68 = .ok (.iand, 1) := by decide +kernel
theorem dX5_pin_69 : decode cX5_pin 69 = .ok (.iconst 1, 1) := by decide +kernel
theorem dX5_pin_70 : decode cX5_pin 70 = .ok (.if_icmp .ne 7, 3) := by decide +kernel
theorem dX5_pin_73 : decode cX5_pin 73 = .ok (.iconst 1, 1) := by decide +kernel
theorem dX5_pin_74 : decode cX5_pin 74 = .ok (.goto 4, 3) := by decide +kernel
theorem dX5_pin_77 : decode cX5_pin 77 = .ok (.iconst 0, 1) := by decide +kernel
theorem dX5_pin_78 : decode cX5_pin 78 = .ok (.istore 5, 2) := by decide +kernel
theorem dX5_pin_80 : decode cX5_pin 80 = .ok (.iload 5, 2) := by decide +kernel
theorem dX5_pin_82 : decode cX5_pin 82 = .ok (.ifCond .ne 21, 3) := by decide +kernel
theorem dX5_pin_85 : decode cX5_pin 85 = .ok (.aload_n 0, 1) := by decide +kernel
theorem dX5_pin_86 : decode cX5_pin 86 = .ok (.iload_n 1, 1) := by decide +kernel
theorem dX5_pin_87 : decode cX5_pin 87 = .ok (.bipush 7, 2) := by decide +kernel
theorem dX5_pin_89 : decode cX5_pin 89 = .ok (.invokevirtual 77, 3) := by decide +kernel
theorem dX5_pin_92 : decode cX5_pin 92 = .ok (.bipush 24, 2) := by decide +kernel
theorem dX5_pin_94 : decode cX5_pin 94 = .ok (.if_icmp .ne 9, 3) := by decide +kernel
theorem dX5_pin_97 : decode cX5_pin 97 = .ok (.aload_n 0, 1) := by decide +kernel
theorem dX5_pin_98 : decode cX5_pin 98 = .ok (.iconst 3, 1) := by decide +kernel
theorem dX5_pin_99 : decode cX5_pin 99 = .ok (.invokevirtual 52, 3) := by decide +kernel
theorem dX5_pin_102 : decode cX5_pin 102 = .ok (.ireturn, 1) := by decide +kernel
theorem dX5_pin_103 : decode cX5_pin 103 = .ok (.aload_n 0, 1) := by decide +kernel
theorem dX5_pin_104 : decode cX5_pin 104 = .ok (.getfield 20, 3) := by decide +kernel
theorem dX5_pin_107 : decode cX5_pin 107 = .ok (.iload 4, 2) := by decide +kernel
theorem dX5_pin_109 : decode cX5_pin 109 = .ok (.dup2, 1) := by decide +kernel
theorem dX5_pin_110 : decode cX5_pin 110 = .ok (.iaload, 1) := by decide +kernel
theorem dX5_pin_111 : decode cX5_pin 111 = .ok (.iconst 1, 1) := by decide +kernel
theorem dX5_pin_112 : decode cX5_pin 112 = .ok (.iload_n 3, 1) := by decide +kernel
theorem dX5_pin_113 : decode cX5_pin 113 = .ok (.ishl, 1) := by decide +kernel
theorem dX5_pin_114 : decode cX5_pin 114 = .ok (.ixor, 1) := by decide +kernel
theorem dX5_pin_115 : decode cX5_pin 115 = .ok (.iastore, 1) := by decide +kernel
theorem dX5_pin_116 : decode cX5_pin 116 = .ok (.aload_n 0, 1) := by decide +kernel
theorem dX5_pin_117 : decode cX5_pin 117 = .ok (.iload_n 1, 1) := by decide +kernel
theorem dX5_pin_118 : decode cX5_pin 118 = .ok (.bipush 7, 2) := by decide +kernel
theorem dX5_pin_120 : decode cX5_pin 120 = .ok (.aload_n 0, 1) := by decide +kernel
theorem dX5_pin_121 : decode cX5_pin 121 = .ok (.iload_n 1, 1) := by decide +kernel
theorem dX5_pin_122 : decode cX5_pin 122 = .ok (.bipush 7, 2) := by decide +kernel
theorem dX5_pin_124 : decode cX5_pin 124 = .ok (.invokevirtual 77, 3) := by decide +kernel
theorem dX5_pin_127 : decode cX5_pin 127 = .ok (.iload 5, 2) := by decide +kernel
theorem dX5_pin_129 : decode cX5_pin 129 = .ok (.ifCond .eq 7, 3) := by decide +kernel
theorem dX5_pin_132 : decode cX5_pin 132 = .ok (.iconst (-1), 1) := by decide +kernel
theorem dX5_pin_133 : decode cX5_pin 133 = .ok (.goto 4, 3) := by decide +kernel
theorem dX5_pin_136 : decode cX5_pin 136 = .ok (.iconst 1, 1) := by decide +kernel
theorem dX5_pin_137 : decode cX5_pin 137 = .ok (.iadd, 1) := by decide +kernel
theorem dX5_pin_138 : decode cX5_pin 138 = .ok (.invokevirtual 99, 3) := by decide +kernel
theorem dX5_pin_141 : decode cX5_pin 141 = .ok (.aload_n 0, 1) := by decide +kernel
theorem dX5_pin_142 : decode cX5_pin 142 = .ok (.iload_n 1, 1) := by decide +kernel
theorem dX5_pin_143 : decode cX5_pin 143 = .ok (.bipush 7, 2) := by decide +kernel
theorem dX5_pin_145 : decode cX5_pin 145 = .ok (.invokevirtual 77, 3) := by decide +kernel
theorem dX5_pin_148 : decode cX5_pin 148 = .ok (.ireturn, 1) := by decide +kernel
theorem dX5_tune_0 : decode cX5_tune 0 = .ok (.aload_n 0, 1) := by decide +kernel
theorem dX5_tune_1 : decode cX5_tune 1 = .ok (.iconst 0, 1) := by decide +kernel
theorem dX5_tune_2 : decode cX5_tune 2 = .ok (.putfield 38, 3) := by decide +kernel
theorem dX5_tune_5 : decode cX5_tune 5 = .ok (.aload_n 0, 1) := by decide +kernel
theorem dX5_tune_6 : decode cX5_tune 6 = .ok (.iload_n 1, 1) := by decide +kernel
theorem dX5_tune_7 : decode cX5_tune 7 = .ok (.invokevirtual 96, 3) := by decide +kernel
theorem dX5_tune_10 : decode cX5_tune 10 = .ok (.ifCond .eq 12, 3) := by decide +kernel
theorem dX5_tune_13 : decode cX5_tune 13 = .ok (.iload_n 2, 1) := by decide +kernel
theorem dX5_tune_14 : decode cX5_tune 14 = .ok (.iconst 0, 1) := by decide +kernel
theorem dX5_tune_15 : decode cX5_tune 15 = .ok (.iconst 5, 1) := by decide +kernel
theorem dX5_tune_16 : decode cX5_tune 16 = .ok (.invokestatic 45, 3) := by decide +kernel
theorem dX5_tune_19 : decode cX5_tune 19 = .ok (.ifCond .ne 9, 3) := by decide +kernel
theorem dX5_tune_22 : decode cX5_tune 22 = .ok (.aload_n 0, 1) := by decide +kernel
theorem dX5_tune_23 : decode cX5_tune 23 = .ok (.iconst 1, 1) := by decide +kernel
theorem dX5_tune_24 : decode cX5_tune 24 = .ok (.invokevirtual 52, 3) := by decide +kernel
theorem dX5_tune_27 : decode cX5_tune 27 = .ok (.ireturn, 1) := by decide +kernel
theorem dX5_tune_28 : decode cX5_tune 28 = .ok (.iload_n 3, 1) := by decide +kernel
theorem dX5_tune_29 : decode cX5_tune 29 = .ok (.iconst 0, 1) := by decide +kernel
theorem dX5_tune_30 : decode cX5_tune 30 = .ok (.bipush 87, 2) := by decide +kernel
theorem dX5_tune_32 : decode cX5_tune 32 = .ok (.invokestatic 45, 3) := by decide +kernel
theorem dX5_tune_35 : decode cX5_tune 35 = .ok (.ifCond .ne 9, 3) := by decide +kernel
theorem dX5_tune_38 : decode cX5_tune 38 = .ok (.aload_n 0, 1) := by decide +kernel
theorem dX5_tune_39 : decode cX5_tune 39 = .ok (.iconst 2, 1) := by decide +kernel
theorem dX5_tune_40 : decode cX5_tune 40 = .ok (.invokevirtual 52, 3) := by decide +kernel
theorem dX5_tune_43 : decode cX5_tune 43 = .ok (.ireturn, 1) := by decide +kernel
theorem dX5_tune_44 : decode cX5_tune 44 = .ok (.aload_n 0, 1) := by decide +kernel
theorem dX5_tune_45 : decode cX5_tune 45 = .ok (.getfield 23, 3) := by decide +kernel
theorem dX5_tune_48 : decode cX5_tune 48 = .ok (.bipush 6, 2) := by decide +kernel
theorem dX5_tune_50 : decode cX5_tune 50 = .ok (.iload_n 1, 1) := by decide +kernel
theorem dX5_tune_51 : decode cX5_tune 51 = .ok (.imul, 1) := by decide +kernel
theorem dX5_tune_52 : decode cX5_tune 52 = .ok (.iload_n 2, 1) := by decide +kernel
theorem dX5_tune_53 : decode cX5_tune 53 = .ok (.iadd, 1) := by decide +kernel
theorem dX5_tune_54 : decode cX5_tune 54 = .ok (.iaload, 1) := by decide +kernel
theorem dX5_tune_55 : decode cX5_tune 55 = .ok (.istore 4, 2) := by decide +kernel
theorem dX5_tune_57 : decode cX5_tune 57 = .ok (.aload_n 0, 1) := by decide +kernel
theorem dX5_tune_58 : decode cX5_tune 58 = .ok (.getfield 23, 3) := by decide +kernel
theorem dX5_tune_61 : decode cX5_tune 61 = .ok (.bipush 6, 2) := by decide +kernel
theorem dX5_tune_63 : decode cX5_tune 63 = .ok (.iload_n 1, 1) := by decide +kernel
theorem dX5_tune_64 : decode cX5_tune 64 = .ok (.imul, 1) := by decide +kernel
theorem dX5_tune_65 : decode cX5_tune 65 = .ok (.iload_n 2, 1) := by decide +kernel
theorem dX5_tune_66 : decode cX5_tune 66 = .ok (.iadd, 1) := by decide +kernel
theorem dX5_tune_67 : decode cX5_tune 67 = .ok (.iload_n 3, 1) := by decide +kernel
theorem dX5_tune_68 : decode cX5_tune 68 = .ok (.iastore, 1) := by decide +kernel
theorem dX5_tune_69 : decode cX5_tune 69 = .ok (.iload 4, 2) := by decide +kernel
theorem dX5_tune_71 : decode cX5_tune 71 = .ok (.ireturn, 1) := by decide +kernel
theorem dX5_cam_0 : decode cX5_cam 0 = .ok (.bipush 96, 2) := by decide +kernel
theorem dX5_cam_2 : decode cX5_cam 2 = .ok (.iconst 3, 1) := by decide +kernel
theorem dX5_cam_3 : decode cX5_cam 3 = .ok (.iload_n 0, 1) := by decide +kernel
theorem dX5_cam_4 : decode cX5_cam 4 = .ok (.imul, 1) := by decide +kernel
theorem dX5_cam_5 : decode cX5_cam 5 = .ok (.iload_n 1, 1) := by decide +kernel
theorem dX5_cam_6 : decode cX5_cam 6 = .ok (.iadd, 1) := by decide +kernel
theorem dX5_cam_7 : decode cX5_cam 7 = .ok (.imul, 1) := by decide +kernel
theorem dX5_cam_8 : decode cX5_cam 8 = .ok (.ireturn, 1) := by decide +kernel
theorem dX5_pointsOf_0 : decode cX5_pointsOf 0 = .ok (.iconst 0, 1) := by decide +kernel
theorem dX5_pointsOf_1 : decode cX5_pointsOf 1 = .ok (.istore_n 3, 1) := by decide +kernel
theorem dX5_pointsOf_2 : decode cX5_pointsOf 2 = .ok (.iconst 0, 1) := by decide +kernel
theorem dX5_pointsOf_3 : decode cX5_pointsOf 3 = .ok (.istore 4, 2) := by decide +kernel
theorem dX5_pointsOf_5 : decode cX5_pointsOf 5 = .ok (.iload 4, 2) := by decide +kernel
theorem dX5_pointsOf_7 : decode cX5_pointsOf 7 = .ok (.aload_n 0, 1) := by decide +kernel
theorem dX5_pointsOf_8 : decode cX5_pointsOf 8 = .ok (.iload_n 1, 1) := by decide +kernel
theorem dX5_pointsOf_9 : decode cX5_pointsOf 9 = .ok (.iconst 2, 1) := by decide +kernel
theorem dX5_pointsOf_10 : decode cX5_pointsOf 10 = .ok (.invokevirtual 77, 3) := by decide +kernel
theorem dX5_pointsOf_13 : decode cX5_pointsOf 13 = .ok (.if_icmp .ge 34, 3) := by decide +kernel
theorem dX5_pointsOf_16 : decode cX5_pointsOf 16 = .ok (.iload_n 3, 1) := by decide +kernel
theorem dX5_pointsOf_17 : decode cX5_pointsOf 17 = .ok (.aload_n 0, 1) := by decide +kernel
theorem dX5_pointsOf_18 : decode cX5_pointsOf 18 = .ok (.getfield 26, 3) := by decide +kernel
theorem dX5_pointsOf_21 : decode cX5_pointsOf 21 = .ok (.iload_n 1, 1) := by decide +kernel
theorem dX5_pointsOf_22 : decode cX5_pointsOf 22 = .ok (.iload_n 2, 1) := by decide +kernel
theorem dX5_pointsOf_23 : decode cX5_pointsOf 23 = .ok (.invokestatic 103, 3) := by decide +kernel
theorem dX5_pointsOf_26 : decode cX5_pointsOf 26 = .ok (.iload 4, 2) := by decide +kernel
theorem dX5_pointsOf_28 : decode cX5_pointsOf 28 = .ok (.iadd, 1) := by decide +kernel
theorem dX5_pointsOf_29 : decode cX5_pointsOf 29 = .ok (.iaload, 1) := by decide +kernel
theorem dX5_pointsOf_30 : decode cX5_pointsOf 30 = .ok (.iconst (-1), 1) := by decide +kernel
theorem dX5_pointsOf_31 : decode cX5_pointsOf 31 = .ok (.if_icmp .eq 7, 3) := by decide +kernel
theorem dX5_pointsOf_34 : decode cX5_pointsOf 34 = .ok (.iconst 1, 1) := by decide +kernel
theorem dX5_pointsOf_35 : decode cX5_pointsOf 35 = .ok (.goto 4, 3) := by decide +kernel
theorem dX5_pointsOf_38 : decode cX5_pointsOf 38 = .ok (.iconst 0, 1) := by decide +kernel
theorem dX5_pointsOf_39 : decode cX5_pointsOf 39 = .ok (.iadd, 1) := by decide +kernel
theorem dX5_pointsOf_40 : decode cX5_pointsOf 40 = .ok (.istore_n 3, 1) := by decide +kernel
theorem dX5_pointsOf_41 : decode cX5_pointsOf 41 = .ok (.iinc 4 1, 3) := by decide +kernel
theorem dX5_pointsOf_44 : decode cX5_pointsOf 44 = .ok (.goto (-39), 3) := by decide +kernel
theorem dX5_pointsOf_47 : decode cX5_pointsOf 47 = .ok (.iload_n 3, 1) := by decide +kernel
theorem dX5_pointsOf_48 : decode cX5_pointsOf 48 = .ok (.ireturn, 1) := by decide +kernel
theorem dX5_point_0 : decode cX5_point 0 = .ok (.aload_n 0, 1) := by decide +kernel
theorem dX5_point_1 : decode cX5_point 1 = .ok (.iconst 0, 1) := by decide +kernel
theorem dX5_point_2 : decode cX5_point 2 = .ok (.putfield 38, 3) := by decide +kernel
theorem dX5_point_5 : decode cX5_point 5 = .ok (.aload_n 0, 1) := by decide +kernel
theorem dX5_point_6 : decode cX5_point 6 = .ok (.iload_n 1, 1) := by decide +kernel
theorem dX5_point_7 : decode cX5_point 7 = .ok (.invokevirtual 96, 3) := by decide +kernel
theorem dX5_point_10 : decode cX5_point 10 = .ok (.ifCond .eq 12, 3) := by decide +kernel
theorem dX5_point_13 : decode cX5_point 13 = .ok (.iload_n 2, 1) := by decide +kernel
theorem dX5_point_14 : decode cX5_point 14 = .ok (.iconst 0, 1) := by decide +kernel
theorem dX5_point_15 : decode cX5_point 15 = .ok (.iconst 2, 1) := by decide +kernel
theorem dX5_point_16 : decode cX5_point 16 = .ok (.invokestatic 45, 3) := by decide +kernel
theorem dX5_point_19 : decode cX5_point 19 = .ok (.ifCond .ne 9, 3) := by decide +kernel
theorem dX5_point_22 : decode cX5_point 22 = .ok (.aload_n 0, 1) := by decide +kernel
theorem dX5_point_23 : decode cX5_point 23 = .ok (.iconst 1, 1) := by decide +kernel
theorem dX5_point_24 : decode cX5_point 24 = .ok (.invokevirtual 52, 3) := by decide +kernel
theorem dX5_point_27 : decode cX5_point 27 = .ok (.ireturn, 1) := by decide +kernel
theorem dX5_point_28 : decode cX5_point 28 = .ok (.iload_n 3, 1) := by decide +kernel
theorem dX5_point_29 : decode cX5_point 29 = .ok (.iconst 0, 1) := by decide +kernel
theorem dX5_point_30 : decode cX5_point 30 = .ok (.aload_n 0, 1) := by decide +kernel
theorem dX5_point_31 : decode cX5_point 31 = .ok (.iload_n 1, 1) := by decide +kernel
theorem dX5_point_32 : decode cX5_point 32 = .ok (.iconst 2, 1) := by decide +kernel
theorem dX5_point_33 : decode cX5_point 33 = .ok (.invokevirtual 77, 3) := by decide +kernel
theorem dX5_point_36 : decode cX5_point 36 = .ok (.iconst 1, 1) := by decide +kernel
theorem dX5_point_37 : decode cX5_point 37 = .ok (.isub, 1) := by decide +kernel
theorem dX5_point_38 : decode cX5_point 38 = .ok (.invokestatic 45, 3) := by decide +kernel
theorem dX5_point_41 : decode cX5_point 41 = .ok (.ifCond .eq 14, 3) := by decide +kernel
theorem dX5_point_44 : decode cX5_point 44 = .ok (.iload 4, 2) := by decide +kernel
theorem dX5_point_46 : decode cX5_point 46 = .ok (.iconst (-1), 1) := by decide +kernel
theorem dX5_point_47 : decode cX5_point 47 = .ok (.bipush 100, 2) := by decide +kernel
theorem dX5_point_49 : decode cX5_point 49 = .ok (.invokestatic 45, 3) := by decide +kernel
theorem dX5_point_52 : decode cX5_point 52 = .ok (.ifCond .ne 9, 3) := by decide +kernel
theorem dX5_point_55 : decode cX5_point 55 = .ok (.aload_n 0, 1) := by decide +kernel
theorem dX5_point_56 : decode cX5_point 56 = .ok (.iconst 2, 1) := by decide +kernel
theorem dX5_point_57 : decode cX5_point 57 = .ok (.invokevirtual 52, 3) := by decide +kernel
theorem dX5_point_60 : decode cX5_point 60 = .ok (.ireturn, 1) := by decide +kernel
theorem dX5_point_61 : decode cX5_point 61 = .ok (.iload_n 1, 1) := by decide +kernel
theorem dX5_point_62 : decode cX5_point 62 = .ok (.iload_n 2, 1) := by decide +kernel
theorem dX5_point_63 : decode cX5_point 63 = .ok (.invokestatic 103, 3) := by decide +kernel
theorem dX5_point_66 : decode cX5_point 66 = .ok (.iload_n 3, 1) := by decide +kernel
theorem dX5_point_67 : decode cX5_point 67 = .ok (.iadd, 1) := by decide +kernel
theorem dX5_point_68 : decode cX5_point 68 = .ok (.istore 5, 2) := by decide +kernel
theorem dX5_point_70 : decode cX5_point 70 = .ok (.aload_n 0, 1) := by decide +kernel
theorem dX5_point_71 : decode cX5_point 71 = .ok (.getfield 26, 3) := by decide +kernel
theorem dX5_point_74 : decode cX5_point 74 = .ok (.iload 5, 2) := by decide +kernel
theorem dX5_point_76 : decode cX5_point 76 = .ok (.iaload, 1) := by decide +kernel
theorem dX5_point_77 : decode cX5_point 77 = .ok (.iconst (-1), 1) := by decide +kernel
theorem dX5_point_78 : decode cX5_point 78 = .ok (.if_icmp .ne 26, 3) := by decide +kernel
theorem dX5_point_81 : decode cX5_point 81 = .ok (.iload 4, 2) := by decide +kernel
theorem dX5_point_83 : decode cX5_point 83 = .ok (.iconst (-1), 1) := by decide +kernel
theorem dX5_point_84 : decode cX5_point 84 = .ok (.if_icmp .eq 14, 3) := by decide +kernel
theorem dX5_point_87 : decode cX5_point 87 = .ok (.aload_n 0, 1) := by decide +kernel
theorem dX5_point_88 : decode cX5_point 88 = .ok (.iload_n 1, 1) := by decide +kernel
theorem dX5_point_89 : decode cX5_point 89 = .ok (.iload_n 2, 1) := by decide +kernel
theorem dX5_point_90 : decode cX5_point 90 = .ok (.invokevirtual 106, 3) := by decide +kernel
theorem dX5_point_93 : decode cX5_point 93 = .ok (.bipush 8, 2) := by decide +kernel
theorem dX5_point_95 : decode cX5_point 95 = .ok (.if_icmp .ne 9, 3) := by decide +kernel
theorem dX5_point_98 : decode cX5_point 98 = .ok (.aload_n 0, 1) := by decide +kernel
theorem dX5_point_99 : decode cX5_point 99 = .ok (.iconst 3, 1) := by decide +kernel
theorem dX5_point_100 : decode cX5_point 100 = .ok (.invokevirtual 52, 3) := by decide +kernel
theorem dX5_point_103 : decode cX5_point 103 = .ok (.ireturn, 1) := by decide +kernel
theorem dX5_point_104 : decode cX5_point 104 = .ok (.aload_n 0, 1) := by decide +kernel
theorem dX5_point_105 : decode cX5_point 105 = .ok (.getfield 26, 3) := by decide +kernel
theorem dX5_point_108 : decode cX5_point 108 = .ok (.iload 5, 2) := by decide +kernel
theorem dX5_point_110 : decode cX5_point 110 = .ok (.iload 4, 2) := by decide +kernel
theorem dX5_point_112 : decode cX5_point 112 = .ok (.iastore, 1) := by decide +kernel
theorem dX5_point_113 : decode cX5_point 113 = .ok (.aload_n 0, 1) := by decide +kernel
theorem dX5_point_114 : decode cX5_point 114 = .ok (.iload_n 1, 1) := by decide +kernel
theorem dX5_point_115 : decode cX5_point 115 = .ok (.iload_n 2, 1) := by decide +kernel
theorem dX5_point_116 : decode cX5_point 116 = .ok (.invokevirtual 106, 3) := by decide +kernel
theorem dX5_point_119 : decode cX5_point 119 = .ok (.ireturn, 1) := by decide +kernel
theorem dX5_liftAt_0 : decode cX5_liftAt 0 = .ok (.aload_n 0, 1) := by decide +kernel
theorem dX5_liftAt_1 : decode cX5_liftAt 1 = .ok (.iload_n 1, 1) := by decide +kernel
theorem dX5_liftAt_2 : decode cX5_liftAt 2 = .ok (.iconst 2, 1) := by decide +kernel
theorem dX5_liftAt_3 : decode cX5_liftAt 3 = .ok (.invokevirtual 77, 3) := by decide +kernel
theorem dX5_liftAt_6 : decode cX5_liftAt 6 = .ok (.istore 4, 2) := by decide +kernel
theorem dX5_liftAt_8 : decode cX5_liftAt 8 = .ok (.iload_n 1, 1) := by decide +kernel
theorem dX5_liftAt_9 : decode cX5_liftAt 9 = .ok (.iload_n 2, 1) := by decide +kernel
theorem dX5_liftAt_10 : decode cX5_liftAt 10 = .ok (.invokestatic 103, 3) := by decide +kernel
theorem dX5_liftAt_13 : decode cX5_liftAt 13 = .ok (.istore 5, 2) := by decide +kernel
theorem dX5_liftAt_15 : decode cX5_liftAt 15 = .ok (.iconst 0, 1) := by decide +kernel
theorem dX5_liftAt_16 : decode cX5_liftAt 16 = .ok (.istore 6, 2) := by decide +kernel
theorem dX5_liftAt_18 : decode cX5_liftAt 18 = .ok (.iload 6, 2) := by decide +kernel
theorem dX5_liftAt_20 : decode cX5_liftAt 20 = .ok (.iload 4, 2) := by decide +kernel
theorem dX5_liftAt_22 : decode cX5_liftAt 22 = .ok (.if_icmp .ge 31, 3) := by decide +kernel
theorem dX5_liftAt_25 : decode cX5_liftAt 25 = .ok (.aload_n 0, 1) := by decide +kernel
theorem dX5_liftAt_26 : decode cX5_liftAt 26 = .ok (.getfield 26, 3) := by decide +kernel
theorem dX5_liftAt_29 : decode cX5_liftAt 29 = .ok (.iload 5, 2) := by decide +kernel
theorem dX5_liftAt_31 : decode cX5_liftAt 31 = .ok (.iload_n 3, 1) := by decide +kernel
theorem dX5_liftAt_32 : decode cX5_liftAt 32 = .ok (.iload 4, 2) := by decide +kernel
theorem dX5_liftAt_34 : decode cX5_liftAt 34 = .ok (.iadd, 1) := by decide +kernel
theorem dX5_liftAt_35 : decode cX5_liftAt 35 = .ok (.iload 6, 2) := by decide +kernel
theorem dX5_liftAt_37 : decode cX5_liftAt 37 = .ok (.isub, 1) := by decide +kernel
theorem dX5_liftAt_38 : decode cX5_liftAt 38 = .ok (.iload 4, 2) := by decide +kernel
theorem dX5_liftAt_40 : decode cX5_liftAt 40 = .ok (.irem, 1) := by decide +kernel
theorem dX5_liftAt_41 : decode cX5_liftAt 41 = .ok (.iadd, 1) := by decide +kernel
theorem dX5_liftAt_42 : decode cX5_liftAt 42 = .ok (.iaload, 1) := by decide +kernel
theorem dX5_liftAt_43 : decode cX5_liftAt 43 = .ok (.iconst (-1), 1) := by decide +kernel
theorem dX5_liftAt_44 : decode cX5_liftAt 44 = .ok (.if_icmp .ne 9, 3) := by decide +kernel
theorem dX5_liftAt_47 : decode cX5_liftAt 47 = .ok (.iinc 6 1, 3) := by decide +kernel
theorem dX5_liftAt_50 : decode cX5_liftAt 50 = .ok (.goto (-32), 3) := by decide +kernel
theorem dX5_liftAt_53 : decode cX5_liftAt 53 = .ok (.iload 6, 2) := by decide +kernel
theorem dX5_liftAt_55 : decode cX5_liftAt 55 = .ok (.iload 4, 2) := by decide +kernel
theorem dX5_liftAt_57 : decode cX5_liftAt 57 = .ok (.if_icmp .ne 5, 3) := by decide +kernel
theorem dX5_liftAt_60 : decode cX5_liftAt 60 = .ok (.iconst 0, 1) := by decide +kernel
theorem dX5_liftAt_61 : decode cX5_liftAt 61 = .ok (.ireturn, 1) := by decide +kernel
theorem dX5_liftAt_62 : decode cX5_liftAt 62 = .ok (.iconst 1, 1) := by decide +kernel
theorem dX5_liftAt_63 : decode cX5_liftAt 63 = .ok (.istore 7, 2) := by decide +kernel
theorem dX5_liftAt_65 : decode cX5_liftAt 65 = .ok (.aload_n 0, 1) := by decide +kernel
theorem dX5_liftAt_66 : decode cX5_liftAt 66 = .ok (.getfield 26, 3) := by decide +kernel
theorem dX5_liftAt_69 : decode cX5_liftAt 69 = .ok (.iload 5, 2) := by decide +kernel
theorem dX5_liftAt_71 : decode cX5_liftAt 71 = .ok (.iload_n 3, 1) := by decide +kernel
theorem dX5_liftAt_72 : decode cX5_liftAt 72 = .ok (.iload 7, 2) := by decide +kernel
theorem dX5_liftAt_74 : decode cX5_liftAt 74 = .ok (.iadd, 1) := by decide +kernel
theorem dX5_liftAt_75 : decode cX5_liftAt 75 = .ok (.iload 4, 2) := by decide +kernel
theorem dX5_liftAt_77 : decode cX5_liftAt 77 = .ok (.irem, 1) := by decide +kernel
theorem dX5_liftAt_78 : decode cX5_liftAt 78 = .ok (.iadd, 1) := by decide +kernel
theorem dX5_liftAt_79 : decode cX5_liftAt 79 = .ok (.iaload, 1) := by decide +kernel
theorem dX5_liftAt_80 : decode cX5_liftAt 80 = .ok (.iconst (-1), 1) := by decide +kernel
theorem dX5_liftAt_81 : decode cX5_liftAt 81 = .ok (.if_icmp .ne 9, 3) := by decide +kernel
theorem dX5_liftAt_84 : decode cX5_liftAt 84 = .ok (.iinc 7 1, 3) := by decide +kernel
theorem dX5_liftAt_87 : decode cX5_liftAt 87 = .ok (.goto (-22), 3) := by decide +kernel
theorem dX5_liftAt_90 : decode cX5_liftAt 90 = .ok (.aload_n 0, 1) := by decide +kernel
theorem dX5_liftAt_91 : decode cX5_liftAt 91 = .ok (.getfield 26, 3) := by decide +kernel
theorem dX5_liftAt_94 : decode cX5_liftAt 94 = .ok (.iload 5, 2) := by decide +kernel
theorem dX5_liftAt_96 : decode cX5_liftAt 96 = .ok (.iload_n 3, 1) := by decide +kernel
theorem dX5_liftAt_97 : decode cX5_liftAt 97 = .ok (.iload 4, 2) := by decide +kernel
theorem dX5_liftAt_99 : decode cX5_liftAt 99 = .ok (.iadd, 1) := by decide +kernel
theorem dX5_liftAt_100 : decode cX5_liftAt 100 = .ok (.iload 6, 2) := by decide +kernel
theorem dX5_liftAt_102 : decode cX5_liftAt 102 = .ok (.isub, 1) := by decide +kernel
theorem dX5_liftAt_103 : decode cX5_liftAt 103 = .ok (.iload 4, 2) := by decide +kernel
theorem dX5_liftAt_105 : decode cX5_liftAt 105 = .ok (.irem, 1) := by decide +kernel
theorem dX5_liftAt_106 : decode cX5_liftAt 106 = .ok (.iadd, 1) := by decide +kernel
theorem dX5_liftAt_107 : decode cX5_liftAt 107 = .ok (.iaload, 1) := by decide +kernel
theorem dX5_liftAt_108 : decode cX5_liftAt 108 = .ok (.istore 8, 2) := by decide +kernel
theorem dX5_liftAt_110 : decode cX5_liftAt 110 = .ok (.aload_n 0, 1) := by decide +kernel
theorem dX5_liftAt_111 : decode cX5_liftAt 111 = .ok (.getfield 26, 3) := by decide +kernel
theorem dX5_liftAt_114 : decode cX5_liftAt 114 = .ok (.iload 5, 2) := by decide +kernel
theorem dX5_liftAt_116 : decode cX5_liftAt 116 = .ok (.iload_n 3, 1) := by decide +kernel
theorem dX5_liftAt_117 : decode cX5_liftAt 117 = .ok (.iload 7, 2) := by decide +kernel
theorem dX5_liftAt_119 : decode cX5_liftAt 119 = .ok (.iadd, 1) := by decide +kernel
theorem dX5_liftAt_120 : decode cX5_liftAt 120 = .ok (.iload 4, 2) := by decide +kernel
theorem dX5_liftAt_122 : decode cX5_liftAt 122 = .ok (.irem, 1) := by decide +kernel
theorem dX5_liftAt_123 : decode cX5_liftAt 123 = .ok (.iadd, 1) := by decide +kernel
theorem dX5_liftAt_124 : decode cX5_liftAt 124 = .ok (.iaload, 1) := by decide +kernel
theorem dX5_liftAt_125 : decode cX5_liftAt 125 = .ok (.istore 9, 2) := by decide +kernel
theorem dX5_liftAt_127 : decode cX5_liftAt 127 = .ok (.iload 8, 2) := by decide +kernel
theorem dX5_liftAt_129 : decode cX5_liftAt 129 = .ok (.iload 9, 2) := by decide +kernel
theorem dX5_liftAt_131 : decode cX5_liftAt 131 = .ok (.iload 8, 2) := by decide +kernel
theorem dX5_liftAt_133 : decode cX5_liftAt 133 = .ok (.isub, 1) := by decide +kernel
theorem dX5_liftAt_134 : decode cX5_liftAt 134 = .ok (.iload 6, 2) := by decide +kernel
theorem dX5_liftAt_136 : decode cX5_liftAt 136 = .ok (.imul, 1) := by decide +kernel
theorem dX5_liftAt_137 : decode cX5_liftAt 137 = .ok (.iload 6, 2) := by decide +kernel
theorem dX5_liftAt_139 : decode cX5_liftAt 139 = .ok (.iload 7, 2) := by decide +kernel
theorem dX5_liftAt_141 : decode cX5_liftAt 141 = .ok (.iadd, 1) := by decide +kernel
theorem dX5_liftAt_142 : decode cX5_liftAt 142 = .ok (.invokestatic 109, 3) := by decide +kernel
theorem dX5_liftAt_145 : decode cX5_liftAt 145 = .ok (.iadd, 1) := by decide +kernel
theorem dX5_liftAt_146 : decode cX5_liftAt 146 = .ok (.ireturn, 1) := by decide +kernel
theorem dX5_bird_0 : decode cX5_bird 0 = .ok (.aload_n 0, 1) := by decide +kernel
theorem dX5_bird_1 : decode cX5_bird 1 = .ok (.iconst 0, 1) := by decide +kernel
theorem dX5_bird_2 : decode cX5_bird 2 = .ok (.putfield 38, 3) := by decide +kernel
theorem dX5_bird_5 : decode cX5_bird 5 = .ok (.aload_n 0, 1) := by decide +kernel
theorem dX5_bird_6 : decode cX5_bird 6 = .ok (.iload_n 1, 1) := by decide +kernel
theorem dX5_bird_7 : decode cX5_bird 7 = .ok (.invokevirtual 96, 3) := by decide +kernel
theorem dX5_bird_10 : decode cX5_bird 10 = .ok (.ifCond .eq 22, 3) := by decide +kernel
theorem dX5_bird_13 : decode cX5_bird 13 = .ok (.iload_n 2, 1) := by decide +kernel
theorem dX5_bird_14 : decode cX5_bird 14 = .ok (.iconst 0, 1) := by decide +kernel
theorem dX5_bird_15 : decode cX5_bird 15 = .ok (.bipush 9, 2) := by decide +kernel
theorem dX5_bird_17 : decode cX5_bird 17 = .ok (.invokestatic 45, 3) := by decide +kernel
theorem dX5_bird_20 : decode cX5_bird 20 = .ok (.ifCond .eq 12, 3) := by decide +kernel
theorem dX5_bird_23 : decode cX5_bird 23 = .ok (.aload_n 0, 1) := by decide +kernel
theorem dX5_bird_24 : decode cX5_bird 24 = .ok (.iload_n 1, 1) := by decide +kernel
theorem dX5_bird_25 : decode cX5_bird 25 = .ok (.iload_n 2, 1) := by decide +kernel
theorem dX5_bird_26 : decode cX5_bird 26 = .ok (.invokevirtual 77, 3) := by decide +kernel
theorem dX5_bird_29 : decode cX5_bird 29 = .ok (.goto 8, 3) := by decide +kernel
theorem dX5_bird_32 : decode cX5_bird 32 = .ok (.aload_n 0, 1) := by decide +kernel
theorem dX5_bird_33 : decode cX5_bird 33 = .ok (.iconst 1, 1) := by decide +kernel
theorem dX5_bird_34 : decode cX5_bird 34 = .ok (.invokevirtual 52, 3) := by decide +kernel
theorem dX5_bird_37 : decode cX5_bird 37 = .ok (.ireturn, 1) := by decide +kernel
theorem dX5_lift_0 : decode cX5_lift 0 = .ok (.aload_n 0, 1) := by decide +kernel
theorem dX5_lift_1 : decode cX5_lift 1 = .ok (.iconst 0, 1) := by decide +kernel
theorem dX5_lift_2 : decode cX5_lift 2 = .ok (.putfield 38, 3) := by decide +kernel
theorem dX5_lift_5 : decode cX5_lift 5 = .ok (.aload_n 0, 1) := by decide +kernel
theorem dX5_lift_6 : decode cX5_lift 6 = .ok (.iload_n 1, 1) := by decide +kernel
theorem dX5_lift_7 : decode cX5_lift 7 = .ok (.invokevirtual 96, 3) := by decide +kernel
theorem dX5_lift_10 : decode cX5_lift 10 = .ok (.ifCond .eq 12, 3) := by decide +kernel
theorem dX5_lift_13 : decode cX5_lift 13 = .ok (.iload_n 2, 1) := by decide +kernel
theorem dX5_lift_14 : decode cX5_lift 14 = .ok (.iconst 0, 1) := by decide +kernel
theorem dX5_lift_15 : decode cX5_lift 15 = .ok (.iconst 2, 1) := by decide +kernel
theorem dX5_lift_16 : decode cX5_lift 16 = .ok (.invokestatic 45, 3) := by decide +kernel
theorem dX5_lift_19 : decode cX5_lift 19 = .ok (.ifCond .ne 9, 3) := by decide +kernel
theorem dX5_lift_22 : decode cX5_lift 22 = .ok (.aload_n 0, 1) := by decide +kernel
theorem dX5_lift_23 : decode cX5_lift 23 = .ok (.iconst 1, 1) := by decide +kernel
theorem dX5_lift_24 : decode cX5_lift 24 = .ok (.invokevirtual 52, 3) := by decide +kernel
theorem dX5_lift_27 : decode cX5_lift 27 = .ok (.ireturn, 1) := by decide +kernel
theorem dX5_lift_28 : decode cX5_lift 28 = .ok (.iload_n 3, 1) := by decide +kernel
theorem dX5_lift_29 : decode cX5_lift 29 = .ok (.iconst (-1), 1) := by decide +kernel
theorem dX5_lift_30 : decode cX5_lift 30 = .ok (.aload_n 0, 1) := by decide +kernel
theorem dX5_lift_31 : decode cX5_lift 31 = .ok (.iload_n 1, 1) := by decide +kernel
theorem dX5_lift_32 : decode cX5_lift 32 = .ok (.iconst 2, 1) := by decide +kernel
theorem dX5_lift_33 : decode cX5_lift 33 = .ok (.invokevirtual 77, 3) := by decide +kernel
theorem dX5_lift_36 : decode cX5_lift 36 = .ok (.iconst 1, 1) := by decide +kernel
theorem dX5_lift_37 : decode cX5_lift 37 = .ok (.isub, 1) := by decide +kernel
theorem dX5_lift_38 : decode cX5_lift 38 = .ok (.invokestatic 45, 3) := by decide +kernel
theorem dX5_lift_41 : decode cX5_lift 41 = .ok (.ifCond .ne 9, 3) := by decide +kernel
theorem dX5_lift_44 : decode cX5_lift 44 = .ok (.aload_n 0, 1) := by decide +kernel
theorem dX5_lift_45 : decode cX5_lift 45 = .ok (.iconst 2, 1) := by decide +kernel
theorem dX5_lift_46 : decode cX5_lift 46 = .ok (.invokevirtual 52, 3) := by decide +kernel
theorem dX5_lift_49 : decode cX5_lift 49 = .ok (.ireturn, 1) := by decide +kernel
theorem dX5_lift_50 : decode cX5_lift 50 = .ok (.aload_n 0, 1) := by decide +kernel
theorem dX5_lift_51 : decode cX5_lift 51 = .ok (.iload_n 1, 1) := by decide +kernel
theorem dX5_lift_52 : decode cX5_lift 52 = .ok (.iload_n 2, 1) := by decide +kernel
theorem dX5_lift_53 : decode cX5_lift 53 = .ok (.iload_n 3, 1) := by decide +kernel
theorem dX5_lift_54 : decode cX5_lift 54 = .ok (.iconst (-1), 1) := by decide +kernel
theorem dX5_lift_55 : decode cX5_lift 55 = .ok (.if_icmp .ne 12, 3) := by decide +kernel
theorem dX5_lift_58 : decode cX5_lift 58 = .ok (.aload_n 0, 1) := by decide +kernel
theorem dX5_lift_59 : decode cX5_lift 59 = .ok (.iload_n 1, 1) := by decide +kernel
theorem dX5_lift_60 : decode cX5_lift 60 = .ok (.iconst 5, 1) := by decide +kernel
theorem dX5_lift_61 : decode cX5_lift 61 = .ok (.invokevirtual 77, 3) := by decide +kernel
theorem dX5_lift_64 : decode cX5_lift 64 = .ok (.goto 4, 3) := by decide +kernel
theorem dX5_lift_67 : decode cX5_lift 67 = .ok (.iload_n 3, 1) := by decide +kernel
theorem dX5_lift_68 : decode cX5_lift 68 = .ok (.invokevirtual 80, 3) := by decide +kernel
theorem dX5_lift_71 : decode cX5_lift 71 = .ok (.ireturn, 1) := by decide +kernel
theorem dX5_sp_0 : decode cX5_sp 0 = .ok (.aload_n 0, 1) := by decide +kernel
theorem dX5_sp_1 : decode cX5_sp 1 = .ok (.getfield 9, 3) := by decide +kernel
theorem dX5_sp_4 : decode cX5_sp 4 = .ok (.iconst 5, 1) := by decide +kernel
theorem dX5_sp_5 : decode cX5_sp 5 = .ok (.iload_n 1, 1) := by decide +kernel
theorem dX5_sp_6 : decode cX5_sp 6 = .ok (.imul, 1) := by decide +kernel
theorem dX5_sp_7 : decode cX5_sp 7 = .ok (.iload_n 2, 1) := by decide +kernel
theorem dX5_sp_8 : decode cX5_sp 8 = .ok (.iadd, 1) := by decide +kernel
theorem dX5_sp_9 : decode cX5_sp 9 = .ok (.iaload, 1) := by decide +kernel
theorem dX5_sp_10 : decode cX5_sp 10 = .ok (.ireturn, 1) := by decide +kernel
theorem dX5_note_0 : decode cX5_note 0 = .ok (.iconst 5, 1) := by decide +kernel
theorem dX5_note_1 : decode cX5_note 1 = .ok (.aload_n 0, 1) := by decide +kernel
theorem dX5_note_2 : decode cX5_note 2 = .ok (.iload_n 1, 1) := by decide +kernel
theorem dX5_note_3 : decode cX5_note 3 = .ok (.iconst 0, 1) := by decide +kernel
theorem dX5_note_4 : decode cX5_note 4 = .ok (.invokevirtual 77, 3) := by decide +kernel
theorem dX5_note_7 : decode cX5_note 7 = .ok (.imul, 1) := by decide +kernel
theorem dX5_note_8 : decode cX5_note 8 = .ok (.iconst 1, 1) := by decide +kernel
theorem dX5_note_9 : decode cX5_note 9 = .ok (.iadd, 1) := by decide +kernel
theorem dX5_note_10 : decode cX5_note 10 = .ok (.istore_n 3, 1) := by decide +kernel
theorem dX5_note_11 : decode cX5_note 11 = .ok (.aload_n 0, 1) := by decide +kernel
theorem dX5_note_12 : decode cX5_note 12 = .ok (.getfield 9, 3) := by decide +kernel
theorem dX5_note_15 : decode cX5_note 15 = .ok (.iload_n 3, 1) := by decide +kernel
theorem dX5_note_16 : decode cX5_note 16 = .ok (.dup2, 1) := by decide +kernel
theorem dX5_note_17 : decode cX5_note 17 = .ok (.iaload, 1) := by decide +kernel
theorem dX5_note_18 : decode cX5_note 18 = .ok (.bipush 10, 2) := by decide +kernel
theorem dX5_note_20 : decode cX5_note 20 = .ok (.aload_n 0, 1) := by decide +kernel
theorem dX5_note_21 : decode cX5_note 21 = .ok (.getfield 9, 3) := by decide +kernel
theorem dX5_note_24 : decode cX5_note 24 = .ok (.iload_n 3, 1) := by decide +kernel
theorem dX5_note_25 : decode cX5_note 25 = .ok (.iaload, 1) := by decide +kernel
theorem dX5_note_26 : decode cX5_note 26 = .ok (.invokestatic 61, 3) := by decide +kernel
theorem dX5_note_29 : decode cX5_note 29 = .ok (.isub, 1) := by decide +kernel
theorem dX5_note_30 : decode cX5_note 30 = .ok (.iastore, 1) := by decide +kernel
theorem dX5_note_31 : decode cX5_note 31 = .ok (.aload_n 0, 1) := by decide +kernel
theorem dX5_note_32 : decode cX5_note 32 = .ok (.iload_n 1, 1) := by decide +kernel
theorem dX5_note_33 : decode cX5_note 33 = .ok (.bipush 9, 2) := by decide +kernel
theorem dX5_note_35 : decode cX5_note 35 = .ok (.aload_n 0, 1) := by decide +kernel
theorem dX5_note_36 : decode cX5_note 36 = .ok (.iload_n 1, 1) := by decide +kernel
theorem dX5_note_37 : decode cX5_note 37 = .ok (.bipush 9, 2) := by decide +kernel
theorem dX5_note_39 : decode cX5_note 39 = .ok (.invokevirtual 77, 3) := by decide +kernel
theorem dX5_note_42 : decode cX5_note 42 = .ok (.iconst 1, 1) := by decide +kernel
theorem dX5_note_43 : decode cX5_note 43 = .ok (.iadd, 1) := by decide +kernel
theorem dX5_note_44 : decode cX5_note 44 = .ok (.invokevirtual 99, 3) := by decide +kernel
theorem dX5_note_47 : decode cX5_note 47 = .ok (.aload_n 0, 1) := by decide +kernel
theorem dX5_note_48 : decode cX5_note 48 = .ok (.getfield 112, 3) := by decide +kernel
theorem dX5_note_51 : decode cX5_note 51 = .ok (.ifCond .eq 4, 3) := by decide +kernel
theorem dX5_note_54 : decode cX5_note 54 = .ok (.return_, 1) := by decide +kernel
theorem dX5_note_55 : decode cX5_note 55 = .ok (.aload_n 0, 1) := by decide +kernel
theorem dX5_note_56 : decode cX5_note 56 = .ok (.dup, 1) := by decide +kernel
theorem dX5_note_57 : decode cX5_note 57 = .ok (.getfield 116, 3) := by decide +kernel
theorem dX5_note_60 : decode cX5_note 60 = .ok (.iconst 1, 1) := by decide +kernel
theorem dX5_note_61 : decode cX5_note 61 = .ok (.iadd, 1) := by decide +kernel
theorem dX5_note_62 : decode cX5_note 62 = .ok (.putfield 116, 3) := by decide +kernel
theorem dX5_note_65 : decode cX5_note 65 = .ok (.aload_n 0, 1) := by decide +kernel
theorem dX5_note_66 : decode cX5_note 66 = .ok (.getfield 119, 3) := by decide +kernel
theorem dX5_note_69 : decode cX5_note 69 = .ok (.sipush 250, 3) := by decide +kernel
theorem dX5_note_72 : decode cX5_note 72 = .ok (.if_icmp .ne 4, 3) := by decide +kernel
theorem dX5_note_75 : decode cX5_note 75 = .ok (.return_, 1) := by decide +kernel
theorem dX5_note_76 : decode cX5_note 76 = .ok (.iconst 4, 1) := by decide +kernel
theorem dX5_note_77 : decode cX5_note 77 = .ok (.newarray .int, 2) := by decide +kernel
theorem dX5_note_79 : decode cX5_note 79 = .ok (.dup, 1) := by decide +kernel
theorem dX5_note_80 : decode cX5_note 80 = .ok (.iconst 0, 1) := by decide +kernel
theorem dX5_note_81 : decode cX5_note 81 = .ok (.aload_n 0, 1) := by decide +kernel
theorem dX5_note_82 : decode cX5_note 82 = .ok (.getfield 122, 3) := by decide +kernel
theorem dX5_note_85 : decode cX5_note 85 = .ok (.iastore, 1) := by decide +kernel
theorem dX5_note_86 : decode cX5_note 86 = .ok (.dup, 1) := by decide +kernel
theorem dX5_note_87 : decode cX5_note 87 = .ok (.iconst 1, 1) := by decide +kernel
theorem dX5_note_88 : decode cX5_note 88 = .ok (.iload_n 1, 1) := by decide +kernel
theorem dX5_note_89 : decode cX5_note 89 = .ok (.iastore, 1) := by decide +kernel
theorem dX5_note_90 : decode cX5_note 90 = .ok (.dup, 1) := by decide +kernel
theorem dX5_note_91 : decode cX5_note 91 = .ok (.iconst 2, 1) := by decide +kernel
theorem dX5_note_92 : decode cX5_note 92 = .ok (.iload_n 2, 1) := by decide +kernel
theorem dX5_note_93 : decode cX5_note 93 = .ok (.iastore, 1) := by decide +kernel
theorem dX5_note_94 : decode cX5_note 94 = .ok (.dup, 1) := by decide +kernel
theorem dX5_note_95 : decode cX5_note 95 = .ok (.iconst 3, 1) := by decide +kernel
theorem dX5_note_96 : decode cX5_note 96 = .ok (.aload_n 0, 1) := by decide +kernel
theorem dX5_note_97 : decode cX5_note 97 = .ok (.getfield 23, 3) := by decide +kernel
theorem dX5_note_100 : decode cX5_note 100 = .ok (.bipush 6, 2) := by decide +kernel
theorem dX5_note_102 : decode cX5_note 102 = .ok (.iload_n 1, 1) := by decide +kernel
theorem dX5_note_103 : decode cX5_note 103 = .ok (.imul, 1) := by decide +kernel
theorem dX5_note_104 : decode cX5_note 104 = .ok (.iload_n 2, 1) := by decide +kernel
theorem dX5_note_105 : decode cX5_note 105 = .ok (.iadd, 1) := by decide +kernel
theorem dX5_note_106 : decode cX5_note 106 = .ok (.iaload, 1) := by decide +kernel
theorem dX5_note_107 : decode cX5_note 107 = .ok (.iastore, 1) := by decide +kernel
theorem dX5_note_108 : decode cX5_note 108 = .ok (.astore 4, 2) := by decide +kernel
theorem dX5_note_110 : decode cX5_note 110 = .ok (.aload 4, 2) := by decide +kernel
theorem dX5_note_112 : decode cX5_note 112 = .ok (.iconst 0, 1) := by decide +kernel
theorem dX5_note_113 : decode cX5_note 113 = .ok (.aload_n 0, 1) := by decide +kernel
theorem dX5_note_114 : decode cX5_note 114 = .ok (.getfield 29, 3) := by decide +kernel
theorem dX5_note_117 : decode cX5_note 117 = .ok (.iconst 4, 1) := by decide +kernel
theorem dX5_note_118 : decode cX5_note 118 = .ok (.aload_n 0, 1) := by decide +kernel
theorem dX5_note_119 : decode cX5_note 119 = .ok (.getfield 119, 3) := by decide +kernel
theorem dX5_note_122 : decode cX5_note 122 = .ok (.imul, 1) := by decide +kernel
theorem dX5_note_123 : decode cX5_note 123 = .ok (.iconst 4, 1) := by decide +kernel
theorem dX5_note_124 : decode cX5_note 124 = .ok (.invokestatic 90, 3) := by decide +kernel
theorem dX5_note_127 : decode cX5_note 127 = .ok (.aload_n 0, 1) := by decide +kernel
theorem dX5_note_128 : decode cX5_note 128 = .ok (.dup, 1) := by decide +kernel
theorem dX5_note_129 : decode cX5_note 129 = .ok (.getfield 119, 3) := by decide +kernel
theorem dX5_note_132 : decode cX5_note 132 = .ok (.iconst 1, 1) := by decide +kernel
theorem dX5_note_133 : decode cX5_note 133 = .ok (.iadd, 1) := by decide +kernel
theorem dX5_note_134 : decode cX5_note 134 = .ok (.putfield 119, 3) := by decide +kernel
theorem dX5_note_137 : decode cX5_note 137 = .ok (.return_, 1) := by decide +kernel
theorem dX5_turn_0 : decode cX5_turn 0 = .ok (.aload_n 0, 1) := by decide +kernel
theorem dX5_turn_1 : decode cX5_turn 1 = .ok (.iload_n 1, 1) := by decide +kernel
theorem dX5_turn_2 : decode cX5_turn 2 = .ok (.iconst 2, 1) := by decide +kernel
theorem dX5_turn_3 : decode cX5_turn 3 = .ok (.invokevirtual 77, 3) := by decide +kernel
theorem dX5_turn_6 : decode cX5_turn 6 = .ok (.istore_n 2, 1) := by decide +kernel
theorem dX5_turn_7 : decode cX5_turn 7 = .ok (.aload_n 0, 1) := by decide +kernel
theorem dX5_turn_8 : decode cX5_turn 8 = .ok (.aload_n 0, 1) := by decide +kernel
theorem dX5_turn_9 : decode cX5_turn 9 = .ok (.iload_n 1, 1) := by decide +kernel
theorem dX5_turn_10 : decode cX5_turn 10 = .ok (.iconst 0, 1) := by decide +kernel
theorem dX5_turn_11 : decode cX5_turn 11 = .ok (.invokevirtual 77, 3) := by decide +kernel
theorem dX5_turn_14 : decode cX5_turn 14 = .ok (.iconst 2, 1) := by decide +kernel
theorem dX5_turn_15 : decode cX5_turn 15 = .ok (.invokevirtual 67, 3) := by decide +kernel
theorem dX5_turn_18 : decode cX5_turn 18 = .ok (.aload_n 0, 1) := by decide +kernel
theorem dX5_turn_19 : decode cX5_turn 19 = .ok (.iload_n 1, 1) := by decide +kernel
theorem dX5_turn_20 : decode cX5_turn 20 = .ok (.bipush 10, 2) := by decide +kernel
theorem dX5_turn_22 : decode cX5_turn 22 = .ok (.invokevirtual 77, 3) := by decide +kernel
theorem dX5_turn_25 : decode cX5_turn 25 = .ok (.isub, 1) := by decide +kernel
theorem dX5_turn_26 : decode cX5_turn 26 = .ok (.i2l, 1) := by decide +kernel
theorem dX5_turn_27 : decode cX5_turn 27 = .ok (.lstore_n 3, 1) := by decide +kernel
theorem dX5_turn_28 : decode cX5_turn 28 = .ok (.lload_n 3, 1) := by decide +kernel
theorem dX5_turn_29 : decode cX5_turn 29 = .ok (.aload_n 0, 1) := by decide +kernel
theorem dX5_turn_30 : decode cX5_turn 30 = .ok (.iload_n 1, 1) := by decide +kernel
theorem dX5_turn_31 : decode cX5_turn 31 = .ok (.iconst 3, 1) := by decide +kernel
theorem dX5_turn_32 : decode cX5_turn 32 = .ok (.invokevirtual 77, 3) := by decide +kernel
theorem dX5_turn_35 : decode cX5_turn 35 = .ok (.i2l, 1) := by decide +kernel
theorem dX5_turn_36 : decode cX5_turn 36 = .ok (.lmul, 1) := by decide +kernel
theorem dX5_turn_37 : decode cX5_turn 37 = .ok (.iload_n 2, 1) := by decide +kernel
theorem dX5_turn_38 : decode cX5_turn 38 = .ok (.i2l, 1) := by decide +kernel
theorem dX5_turn_39 : decode cX5_turn 39 = .ok (.lmul, 1) := by decide +kernel
theorem dX5_turn_40 : decode cX5_turn 40 = .ok (.ldc2_w 125, 3) := by decide +kernel
theorem dX5_turn_43 : decode cX5_turn 43 = .ok (.aload_n 0, 1) := by decide +kernel
theorem dX5_turn_44 : decode cX5_turn 44 = .ok (.iload_n 1, 1) := by decide +kernel
theorem dX5_turn_45 : decode cX5_turn 45 = .ok (.iconst 4, 1) := by decide +kernel
theorem dX5_turn_46 : decode cX5_turn 46 = .ok (.invokevirtual 77, 3) := by decide +kernel
theorem dX5_turn_49 : decode cX5_turn 49 = .ok (.i2l, 1) := by decide +kernel
theorem dX5_turn_50 : decode cX5_turn 50 = .ok (.lmul, 1) := by decide +kernel
theorem dX5_turn_51 : decode cX5_turn 51 = .ok (.ldiv, 1) := by decide +kernel
theorem dX5_turn_52 : decode cX5_turn 52 = .ok (.l2i, 1) := by decide +kernel
theorem dX5_turn_53 : decode cX5_turn 53 = .ok (.istore 5, 2) := by decide +kernel
theorem dX5_turn_55 : decode cX5_turn 55 = .ok (.aload_n 0, 1) := by decide +kernel
theorem dX5_turn_56 : decode cX5_turn 56 = .ok (.iload_n 1, 1) := by decide +kernel
theorem dX5_turn_57 : decode cX5_turn 57 = .ok (.bipush 8, 2) := by decide +kernel
theorem dX5_turn_59 : decode cX5_turn 59 = .ok (.invokevirtual 77, 3) := by decide +kernel
theorem dX5_turn_62 : decode cX5_turn 62 = .ok (.iconst 1, 1) := by decide +kernel
theorem dX5_turn_63 : decode cX5_turn 63 = .ok (.iadd, 1) := by decide +kernel
theorem dX5_turn_64 : decode cX5_turn 64 = .ok (.iload 5, 2) := by decide +kernel
theorem dX5_turn_66 : decode cX5_turn 66 = .ok (.iload_n 2, 1) := by decide +kernel
theorem dX5_turn_67 : decode cX5_turn 67 = .ok (.isub, 1) := by decide +kernel
theorem dX5_turn_68 : decode cX5_turn 68 = .ok (.iconst 1, 1) := by decide +kernel
theorem dX5_turn_69 : decode cX5_turn 69 = .ok (.iadd, 1) := by decide +kernel
theorem dX5_turn_70 : decode cX5_turn 70 = .ok (.invokestatic 70, 3) := by decide +kernel
theorem dX5_turn_73 : decode cX5_turn 73 = .ok (.istore 6, 2) := by decide +kernel
theorem dX5_turn_75 : decode cX5_turn 75 = .ok (.iload 6, 2) := by decide +kernel
theorem dX5_turn_77 : decode cX5_turn 77 = .ok (.iload 5, 2) := by decide +kernel
theorem dX5_turn_79 : decode cX5_turn 79 = .ok (.if_icmp .gt 59, 3) := by decide +kernel
theorem dX5_turn_82 : decode cX5_turn 82 = .ok (.aload_n 0, 1) := by decide +kernel
theorem dX5_turn_83 : decode cX5_turn 83 = .ok (.getfield 20, 3) := by decide +kernel
theorem dX5_turn_86 : decode cX5_turn 86 = .ok (.bipush 96, 2) := by decide +kernel
theorem dX5_turn_88 : decode cX5_turn 88 = .ok (.iload_n 1, 1) := by decide +kernel
theorem dX5_turn_89 : decode cX5_turn 89 = .ok (.imul, 1) := by decide +kernel
theorem dX5_turn_90 : decode cX5_turn 90 = .ok (.iload 6, 2) := by decide +kernel
theorem dX5_turn_92 : decode cX5_turn 92 = .ok (.iload_n 2, 1) := by decide +kernel
theorem dX5_turn_93 : decode cX5_turn 93 = .ok (.irem, 1) := by decide +kernel
theorem dX5_turn_94 : decode cX5_turn 94 = .ok (.iadd, 1) := by decide +kernel
theorem dX5_turn_95 : decode cX5_turn 95 = .ok (.iaload, 1) := by decide +kernel
theorem dX5_turn_96 : decode cX5_turn 96 = .ok (.istore 7, 2) := by decide +kernel
theorem dX5_turn_98 : decode cX5_turn 98 = .ok (.iconst 0, 1) := by decide +kernel
theorem dX5_turn_99 : decode cX5_turn 99 = .ok (.istore 8, 2) := by decide +kernel
theorem dX5_turn_101 : decode cX5_turn 101 = .ok (.iload 8, 2) := by decide +kernel
theorem dX5_turn_103 : decode cX5_turn 103 = .ok (.bipush 6, 2) := by decide +kernel
theorem dX5_turn_105 : decode cX5_turn 105 = .ok (.if_icmp .ge 27, 3) := by decide +kernel
theorem dX5_turn_108 : decode cX5_turn 108 = .ok (.iload 7, 2) := by decide +kernel
theorem dX5_turn_110 : decode cX5_turn 110 = .ok (.iload 8, 2) := by decide +kernel
theorem dX5_turn_112 : decode cX5_turn 112 = .ok (.ishr, 1) := by decide +kernel
theorem dX5_turn_113 : decode cX5_turn 113 = .ok (.iconst 1, 1) := by decide +kernel
theorem dX5_turn_114 : decode cX5_turn 114 = .ok (.iand, 1) := by decide +kernel
theorem dX5_turn_115 : decode cX5_turn 115 = .ok (.iconst 1, 1) := by decide +kernel
theorem dX5_turn_116 : decode cX5_turn 116 = .ok (.if_icmp .ne 10, 3) := by decide +kernel
theorem dX5_turn_119 : decode cX5_turn 119 = .ok (.aload_n 0, 1) := by decide +kernel
theorem dX5_turn_120 : decode cX5_turn 120 = .ok (.iload_n 1, 1) := by decide +kernel
theorem dX5_turn_121 : decode cX5_turn 121 = .ok (.iload 8, 2) := by decide +kernel
theorem dX5_turn_123 : decode cX5_turn 123 = .ok (.invokevirtual 127, 3) := by decide +kernel
theorem dX5_turn_126 : decode cX5_turn 126 = .ok (.iinc 8 1, 3) := by decide +kernel
theorem dX5_turn_129 : decode cX5_turn 129 = .ok (.goto (-28), 3) := by decide +kernel
theorem dX5_turn_132 : decode cX5_turn 132 = .ok (.iinc 6 1, 3) := by decide +kernel
theorem dX5_turn_135 : decode cX5_turn 135 = .ok (.goto (-60), 3) := by decide +kernel
theorem dX5_turn_138 : decode cX5_turn 138 = .ok (.aload_n 0, 1) := by decide +kernel
theorem dX5_turn_139 : decode cX5_turn 139 = .ok (.iload_n 1, 1) := by decide +kernel
theorem dX5_turn_140 : decode cX5_turn 140 = .ok (.bipush 8, 2) := by decide +kernel
theorem dX5_turn_142 : decode cX5_turn 142 = .ok (.iload 5, 2) := by decide +kernel
theorem dX5_turn_144 : decode cX5_turn 144 = .ok (.invokevirtual 99, 3) := by decide +kernel
theorem dX5_turn_147 : decode cX5_turn 147 = .ok (.aload_n 0, 1) := by decide +kernel
theorem dX5_turn_148 : decode cX5_turn 148 = .ok (.iload_n 1, 1) := by decide +kernel
theorem dX5_turn_149 : decode cX5_turn 149 = .ok (.iconst 5, 1) := by decide +kernel
theorem dX5_turn_150 : decode cX5_turn 150 = .ok (.iload 5, 2) := by decide +kernel
theorem dX5_turn_152 : decode cX5_turn 152 = .ok (.iload_n 2, 1) := by decide +kernel
theorem dX5_turn_153 : decode cX5_turn 153 = .ok (.irem, 1) := by decide +kernel
theorem dX5_turn_154 : decode cX5_turn 154 = .ok (.invokevirtual 99, 3) := by decide +kernel
theorem dX5_turn_157 : decode cX5_turn 157 = .ok (.return_, 1) := by decide +kernel
theorem dX5_oneTick_0 : decode cX5_oneTick 0 = .ok (.aload_n 0, 1) := by decide +kernel
theorem dX5_oneTick_1 : decode cX5_oneTick 1 = .ok (.dup, 1) := by decide +kernel
theorem dX5_oneTick_2 : decode cX5_oneTick 2 = .ok (.getfield 122, 3) := by decide +kernel
theorem dX5_oneTick_5 : decode cX5_oneTick 5 = .ok (.iconst 1, 1) := by decide +kernel
theorem dX5_oneTick_6 : decode cX5_oneTick 6 = .ok (.iadd, 1) := by decide +kernel
theorem dX5_oneTick_7 : decode cX5_oneTick 7 = .ok (.putfield 122, 3) := by decide +kernel
theorem dX5_oneTick_10 : decode cX5_oneTick 10 = .ok (.iconst 0, 1) := by decide +kernel
theorem dX5_oneTick_11 : decode cX5_oneTick 11 = .ok (.istore_n 1, 1) := by decide +kernel
theorem dX5_oneTick_12 : decode cX5_oneTick 12 = .ok (.iload_n 1, 1) := by decide +kernel
theorem dX5_oneTick_13 : decode cX5_oneTick 13 = .ok (.aload_n 0, 1) := by decide +kernel
theorem dX5_oneTick_14 : decode cX5_oneTick 14 = .ok (.getfield 42, 3) := by decide +kernel
theorem dX5_oneTick_17 : decode cX5_oneTick 17 = .ok (.if_icmp .ge 88, 3) := by decide +kernel
theorem dX5_oneTick_20 : decode cX5_oneTick 20 = .ok (.iload_n 1, 1) := by decide +kernel
theorem dX5_oneTick_21 : decode cX5_oneTick 21 = .ok (.iconst 1, 1) := by decide +kernel
theorem dX5_oneTick_22 : decode cX5_oneTick 22 = .ok (.iadd, 1) := by decide +kernel
theorem dX5_oneTick_23 : decode cX5_oneTick 23 = .ok (.istore_n 2, 1) := by decide +kernel
theorem dX5_oneTick_24 : decode cX5_oneTick 24 = .ok (.iload_n 2, 1) := by decide +kernel
theorem dX5_oneTick_25 : decode cX5_oneTick 25 = .ok (.aload_n 0, 1) := by decide +kernel
theorem dX5_oneTick_26 : decode cX5_oneTick 26 = .ok (.getfield 42, 3) := by decide +kernel
theorem dX5_oneTick_29 : decode cX5_oneTick 29 = .ok (.if_icmp .ge 70, 3) := by decide +kernel
theorem dX5_oneTick_32 : decode cX5_oneTick 32 = .ok (.aload_n 0, 1) := by decide +kernel
theorem dX5_oneTick_33 : decode cX5_oneTick 33 = .ok (.getfield 16, 3) := by decide +kernel
theorem dX5_oneTick_36 : decode cX5_oneTick 36 = .ok (.iconst 4, 1) := by decide +kernel
theorem dX5_oneTick_37 : decode cX5_oneTick 37 = .ok (.iload_n 1, 1) := by decide +kernel
theorem dX5_oneTick_38 : decode cX5_oneTick 38 = .ok (.imul, 1) := by decide +kernel
theorem dX5_oneTick_39 : decode cX5_oneTick 39 = .ok (.iload_n 2, 1) := by decide +kernel
theorem dX5_oneTick_40 : decode cX5_oneTick 40 = .ok (.iadd, 1) := by decide +kernel
theorem dX5_oneTick_41 : decode cX5_oneTick 41 = .ok (.baload, 1) := by decide +kernel
theorem dX5_oneTick_42 : decode cX5_oneTick 42 = .ok (.ifCond .ne 6, 3) := by decide +kernel
theorem dX5_oneTick_45 : decode cX5_oneTick 45 = .ok (.goto 48, 3) := by decide +kernel
theorem dX5_oneTick_48 : decode cX5_oneTick 48 = .ok (.aload_n 0, 1) := by decide +kernel
theorem dX5_oneTick_49 : decode cX5_oneTick 49 = .ok (.iload_n 1, 1) := by decide +kernel
theorem dX5_oneTick_50 : decode cX5_oneTick 50 = .ok (.iconst 1, 1) := by decide +kernel
theorem dX5_oneTick_51 : decode cX5_oneTick 51 = .ok (.invokevirtual 67, 3) := by decide +kernel
theorem dX5_oneTick_54 : decode cX5_oneTick 54 = .ok (.aload_n 0, 1) := by decide +kernel
theorem dX5_oneTick_55 : decode cX5_oneTick 55 = .ok (.iload_n 2, 1) := by decide +kernel
theorem dX5_oneTick_56 : decode cX5_oneTick 56 = .ok (.iconst 1, 1) := by decide +kernel
theorem dX5_oneTick_57 : decode cX5_oneTick 57 = .ok (.invokevirtual 67, 3) := by decide +kernel
theorem dX5_oneTick_60 : decode cX5_oneTick 60 = .ok (.isub, 1) := by decide +kernel
theorem dX5_oneTick_61 : decode cX5_oneTick 61 = .ok (.bipush 10, 2) := by decide +kernel
theorem dX5_oneTick_63 : decode cX5_oneTick 63 = .ok (.idiv, 1) := by decide +kernel
theorem dX5_oneTick_64 : decode cX5_oneTick 64 = .ok (.istore_n 3, 1) := by decide +kernel
theorem dX5_oneTick_65 : decode cX5_oneTick 65 = .ok (.aload_n 0, 1) := by decide +kernel
theorem dX5_oneTick_66 : decode cX5_oneTick 66 = .ok (.getfield 9, 3) := by decide +kernel
theorem dX5_oneTick_69 : decode cX5_oneTick 69 = .ok (.iconst 5, 1) := by decide +kernel
theorem dX5_oneTick_70 : decode cX5_oneTick 70 = .ok (.iload_n 1, 1) := by decide +kernel
theorem dX5_oneTick_71 : decode cX5_oneTick 71 = .ok (.imul, 1) := by decide +kernel
theorem dX5_oneTick_72 : decode cX5_oneTick 72 = .ok (.iconst 1, 1) := by decide +kernel
theorem dX5_oneTick_73 : decode cX5_oneTick 73 = .ok (.iadd, 1) := by decide +kernel
theorem dX5_oneTick_74 : decode cX5_oneTick 74 = .ok (.dup2, 1) := by decide +kernel
theorem dX5_oneTick_75 : decode cX5_oneTick 75 = .ok (.iaload, 1) := by decide +kernel
theorem dX5_oneTick_76 : decode cX5_oneTick 76 = .ok (.iload_n 3, 1) := by decide +kernel
theorem dX5_oneTick_77 : decode cX5_oneTick 77 = .ok (.isub, 1) := by decide +kernel
theorem dX5_oneTick_78 : decode cX5_oneTick 78 = .ok (.iastore, 1) := by decide +kernel
theorem dX5_oneTick_79 : decode cX5_oneTick 79 = .ok (.aload_n 0, 1) := by decide +kernel
theorem dX5_oneTick_80 : decode cX5_oneTick 80 = .ok (.getfield 9, 3) := by decide +kernel
theorem dX5_oneTick_83 : decode cX5_oneTick 83 = .ok (.iconst 5, 1) := by decide +kernel
theorem dX5_oneTick_84 : decode cX5_oneTick 84 = .ok (.iload_n 2, 1) := by decide +kernel
theorem dX5_oneTick_85 : decode cX5_oneTick 85 = .ok (.imul, 1) := by decide +kernel
theorem dX5_oneTick_86 : decode cX5_oneTick 86 = .ok (.iconst 1, 1) := by decide +kernel
theorem dX5_oneTick_87 : decode cX5_oneTick 87 = .ok (.iadd, 1) := by decide +kernel
theorem dX5_oneTick_88 : decode cX5_oneTick 88 = .ok (.dup2, 1) := by decide +kernel
theorem dX5_oneTick_89 : decode cX5_oneTick 89 = .ok (.iaload, 1) := by decide +kernel
theorem dX5_oneTick_90 : decode cX5_oneTick 90 = .ok (.iload_n 3, 1) := by decide +kernel
theorem dX5_oneTick_91 : decode cX5_oneTick 91 = .ok (.iadd, 1) := by decide +kernel
theorem dX5_oneTick_92 : decode cX5_oneTick 92 = .ok (.iastore, 1) := by decide +kernel
theorem dX5_oneTick_93 : decode cX5_oneTick 93 = .ok (.iinc 2 1, 3) := by decide +kernel
theorem dX5_oneTick_96 : decode cX5_oneTick 96 = .ok (.goto (-72), 3) := by decide +kernel
theorem dX5_oneTick_99 : decode cX5_oneTick 99 = .ok (.iinc 1 1, 3) := by decide +kernel
theorem dX5_oneTick_102 : decode cX5_oneTick 102 = .ok (.goto (-90), 3) := by decide +kernel
theorem dX5_oneTick_105 : decode cX5_oneTick 105 = .ok (.iconst 0, 1) := by decide +kernel
theorem dX5_oneTick_106 : decode cX5_oneTick 106 = .ok (.istore_n 1, 1) := by decide +kernel
theorem dX5_oneTick_107 : decode cX5_oneTick 107 = .ok (.iload_n 1, 1) := by decide +kernel
theorem dX5_oneTick_108 : decode cX5_oneTick 108 = .ok (.aload_n 0, 1) := by decide +kernel
theorem dX5_oneTick_109 : decode cX5_oneTick 109 = .ok (.getfield 42, 3) := by decide +kernel
theorem dX5_oneTick_112 : decode cX5_oneTick 112 = .ok (.if_icmp .ge 160, 3) := by decide +kernel
theorem dX5_oneTick_115 : decode cX5_oneTick 115 = .ok (.aload_n 0, 1) := by decide +kernel
theorem dX5_oneTick_116 : decode cX5_oneTick 116 = .ok (.iload_n 1, 1) := by decide +kernel
theorem dX5_oneTick_117 : decode cX5_oneTick 117 = .ok (.iconst 1, 1) := by decide +kernel
theorem dX5_oneTick_118 : decode cX5_oneTick 118 = .ok (.invokevirtual 67, 3) := by decide +kernel
theorem dX5_oneTick_121 : decode cX5_oneTick 121 = .ok (.istore_n 2, 1) := by decide +kernel
theorem dX5_oneTick_122 : decode cX5_oneTick 122 = .ok (.aload_n 0, 1) := by decide +kernel
theorem dX5_oneTick_123 : decode cX5_oneTick 123 = .ok (.iload_n 1, 1) := by decide +kernel
theorem dX5_oneTick_124 : decode cX5_oneTick 124 = .ok (.iconst 4, 1) := by decide +kernel
theorem dX5_oneTick_125 : decode cX5_oneTick 125 = .ok (.invokevirtual 67, 3) := by decide +kernel
theorem dX5_oneTick_128 : decode cX5_oneTick 128 = .ok (.iconst 1, 1) := by decide +kernel
theorem dX5_oneTick_129 : decode cX5_oneTick 129 = .ok (.if_icmp .eq 7, 3) := by decide +kernel
theorem dX5_oneTick_132 : decode cX5_oneTick 132 = .ok (.iload_n 2, 1) := by decide +kernel
theorem dX5_oneTick_133 : decode cX5_oneTick 133 = .ok (.ifCond .ne 7, 3) := by decide +kernel
theorem dX5_oneTick_136 : decode cX5_oneTick 136 = .ok (.iconst 0, 1) := by decide +kernel
theorem dX5_oneTick_137 : decode cX5_oneTick 137 = .ok (.goto 35, 3) := by decide +kernel
theorem dX5_oneTick_140 : decode cX5_oneTick 140 = .ok (.iload_n 2, 1) := by decide +kernel
theorem dX5_oneTick_141 : decode cX5_oneTick 141 = .ok (.iconst 1, 1) := by decide +kernel
theorem dX5_oneTick_142 : decode cX5_oneTick 142 = .ok (.sipush 400, 3) := by decide +kernel
theorem dX5_oneTick_145 : decode cX5_oneTick 145 = .ok (.aload_n 0, 1) := by decide +kernel
theorem dX5_oneTick_146 : decode cX5_oneTick 146 = .ok (.iload_n 1, 1) := by decide +kernel
theorem dX5_oneTick_147 : decode cX5_oneTick 147 = .ok (.iconst 0, 1) := by decide +kernel
theorem dX5_oneTick_148 : decode cX5_oneTick 148 = .ok (.invokevirtual 67, 3) := by decide +kernel
theorem dX5_oneTick_151 : decode cX5_oneTick 151 = .ok (.iload_n 2, 1) := by decide +kernel
theorem dX5_oneTick_152 : decode cX5_oneTick 152 = .ok (.imul, 1) := by decide +kernel
theorem dX5_oneTick_153 : decode cX5_oneTick 153 = .ok (.sipush 200, 3) := by decide +kernel
theorem dX5_oneTick_156 : decode cX5_oneTick 156 = .ok (.aload_n 0, 1) := by decide +kernel
theorem dX5_oneTick_157 : decode cX5_oneTick 157 = .ok (.iload_n 1, 1) := by decide +kernel
theorem dX5_oneTick_158 : decode cX5_oneTick 158 = .ok (.invokevirtual 84, 3) := by decide +kernel
theorem dX5_oneTick_161 : decode cX5_oneTick 161 = .ok (.imul, 1) := by decide +kernel
theorem dX5_oneTick_162 : decode cX5_oneTick 162 = .ok (.idiv, 1) := by decide +kernel
theorem dX5_oneTick_163 : decode cX5_oneTick 163 = .ok (.invokestatic 61, 3) := by decide +kernel
theorem dX5_oneTick_166 : decode cX5_oneTick 166 = .ok (.invokestatic 70, 3) := by decide +kernel
theorem dX5_oneTick_169 : decode cX5_oneTick 169 = .ok (.invokestatic 61, 3) := by decide +kernel
theorem dX5_oneTick_172 : decode cX5_oneTick 172 = .ok (.istore_n 3, 1) := by decide +kernel
theorem dX5_oneTick_173 : decode cX5_oneTick 173 = .ok (.aload_n 0, 1) := by decide +kernel
theorem dX5_oneTick_174 : decode cX5_oneTick 174 = .ok (.getfield 9, 3) := by decide +kernel
theorem dX5_oneTick_177 : decode cX5_oneTick 177 = .ok (.iconst 5, 1) := by decide +kernel
theorem dX5_oneTick_178 : decode cX5_oneTick 178 = .ok (.iload_n 1, 1) := by decide +kernel
theorem dX5_oneTick_179 : decode cX5_oneTick 179 = .ok (.imul, 1) := by decide +kernel
theorem dX5_oneTick_180 : decode cX5_oneTick 180 = .ok (.iconst 3, 1) := by decide +kernel
theorem dX5_oneTick_181 : decode cX5_oneTick 181 = .ok (.iadd, 1) := by decide +kernel
theorem dX5_oneTick_182 : decode cX5_oneTick 182 = .ok (.iload_n 3, 1) := by decide +kernel
theorem dX5_oneTick_183 : decode cX5_oneTick 183 = .ok (.iastore, 1) := by decide +kernel
theorem dX5_oneTick_184 : decode cX5_oneTick 184 = .ok (.iload_n 3, 1) := by decide +kernel
theorem dX5_oneTick_185 : decode cX5_oneTick 185 = .ok (.ifCond .ne 6, 3) := by decide +kernel
theorem dX5_oneTick_188 : decode cX5_oneTick 188 = .ok (.goto 78, 3) := by decide +kernel
theorem dX5_oneTick_191 : decode cX5_oneTick 191 = .ok (.aload_n 0, 1) := by decide +kernel
theorem dX5_oneTick_192 : decode cX5_oneTick 192 = .ok (.getfield 9, 3) := by decide +kernel
theorem dX5_oneTick_195 : decode cX5_oneTick 195 = .ok (.iconst 5, 1) := by decide +kernel
theorem dX5_oneTick_196 : decode cX5_oneTick 196 = .ok (.iload_n 1, 1) := by decide +kernel
theorem dX5_oneTick_197 : decode cX5_oneTick 197 = .ok (.imul, 1) := by decide +kernel
theorem dX5_oneTick_198 : decode cX5_oneTick 198 = .ok (.iconst 1, 1) := by decide +kernel
theorem dX5_oneTick_199 : decode cX5_oneTick 199 = .ok (.iadd, 1) := by decide +kernel
theorem dX5_oneTick_200 : decode cX5_oneTick 200 = .ok (.dup2, 1) := by decide +kernel
theorem dX5_oneTick_201 : decode cX5_oneTick 201 = .ok (.iaload, 1) := by decide +kernel
theorem dX5_oneTick_202 : decode cX5_oneTick 202 = .ok (.iload_n 3, 1) := by decide +kernel
theorem dX5_oneTick_203 : decode cX5_oneTick 203 = .ok (.isub, 1) := by decide +kernel
theorem dX5_oneTick_204 : decode cX5_oneTick 204 = .ok (.iastore, 1) := by decide +kernel
theorem dX5_oneTick_205 : decode cX5_oneTick 205 = .ok (.aload_n 0, 1) := by decide +kernel
theorem dX5_oneTick_206 : decode cX5_oneTick 206 = .ok (.getfield 9, 3) := by decide +kernel
theorem dX5_oneTick_209 : decode cX5_oneTick 209 = .ok (.iconst 5, 1) := by decide +kernel
theorem dX5_oneTick_210 : decode cX5_oneTick 210 = .ok (.iload_n 1, 1) := by decide +kernel
theorem dX5_oneTick_211 : decode cX5_oneTick 211 = .ok (.imul, 1) := by decide +kernel
theorem dX5_oneTick_212 : decode cX5_oneTick 212 = .ok (.iconst 2, 1) := by decide +kernel
theorem dX5_oneTick_213 : decode cX5_oneTick 213 = .ok (.iadd, 1) := by decide +kernel
theorem dX5_oneTick_214 : decode cX5_oneTick 214 = .ok (.dup2, 1) := by decide +kernel
theorem dX5_oneTick_215 : decode cX5_oneTick 215 = .ok (.iaload, 1) := by decide +kernel
theorem dX5_oneTick_216 : decode cX5_oneTick 216 = .ok (.iload_n 3, 1) := by decide +kernel
theorem dX5_oneTick_217 : decode cX5_oneTick 217 = .ok (.iadd, 1) := by decide +kernel
theorem dX5_oneTick_218 : decode cX5_oneTick 218 = .ok (.iastore, 1) := by decide +kernel
theorem dX5_oneTick_219 : decode cX5_oneTick 219 = .ok (.iconst 0, 1) := by decide +kernel
theorem dX5_oneTick_220 : decode cX5_oneTick 220 = .ok (.istore 4, 2) := by decide +kernel
theorem dX5_oneTick_222 : decode cX5_oneTick 222 = .ok (.iload 4, 2) := by decide +kernel
theorem dX5_oneTick_224 : decode cX5_oneTick 224 = .ok (.aload_n 0, 1) := by decide +kernel
theorem dX5_oneTick_225 : decode cX5_oneTick 225 = .ok (.getfield 49, 3) := by decide +kernel
theorem dX5_oneTick_228 : decode cX5_oneTick 228 = .ok (.if_icmp .ge 38, 3) := by decide +kernel
theorem dX5_oneTick_231 : decode cX5_oneTick 231 = .ok (.aload_n 0, 1) := by decide +kernel
theorem dX5_oneTick_232 : decode cX5_oneTick 232 = .ok (.iload 4, 2) := by decide +kernel
theorem dX5_oneTick_234 : decode cX5_oneTick 234 = .ok (.iconst 0, 1) := by decide +kernel
theorem dX5_oneTick_235 : decode cX5_oneTick 235 = .ok (.invokevirtual 77, 3) := by decide +kernel
theorem dX5_oneTick_238 : decode cX5_oneTick 238 = .ok (.iload_n 1, 1) := by decide +kernel
theorem dX5_oneTick_239 : decode cX5_oneTick 239 = .ok (.if_icmp .ne 21, 3) := by decide +kernel
theorem dX5_oneTick_242 : decode cX5_oneTick 242 = .ok (.aload_n 0, 1) := by decide +kernel
theorem dX5_oneTick_243 : decode cX5_oneTick 243 = .ok (.iload 4, 2) := by decide +kernel
theorem dX5_oneTick_245 : decode cX5_oneTick 245 = .ok (.bipush 6, 2) := by decide +kernel
theorem dX5_oneTick_247 : decode cX5_oneTick 247 = .ok (.invokevirtual 77, 3) := by decide +kernel
theorem dX5_oneTick_250 : decode cX5_oneTick 250 = .ok (.iconst 1, 1) := by decide +kernel
theorem dX5_oneTick_251 : decode cX5_oneTick 251 = .ok (.if_icmp .ne 9, 3) := by decide +kernel
theorem dX5_oneTick_254 : decode cX5_oneTick 254 = .ok (.aload_n 0, 1) := by decide +kernel
theorem dX5_oneTick_255 : decode cX5_oneTick 255 = .ok (.iload 4, 2) := by decide +kernel
theorem dX5_oneTick_257 : decode cX5_oneTick 257 = .ok (.invokevirtual 131, 3) := by decide +kernel
theorem dX5_oneTick_260 : decode cX5_oneTick 260 = .ok (.iinc 4 1, 3) := by decide +kernel
theorem dX5_oneTick_263 : decode cX5_oneTick 263 = .ok (.goto (-41), 3) := by decide +kernel
theorem dX5_oneTick_266 : decode cX5_oneTick 266 = .ok (.iinc 1 1, 3) := by decide +kernel
theorem dX5_oneTick_269 : decode cX5_oneTick 269 = .ok (.goto (-162), 3) := by decide +kernel
theorem dX5_oneTick_272 : decode cX5_oneTick 272 = .ok (.return_, 1) := by decide +kernel
theorem dX5_run_0 : decode cX5_run 0 = .ok (.aload_n 0, 1) := by decide +kernel
theorem dX5_run_1 : decode cX5_run 1 = .ok (.iconst 0, 1) := by decide +kernel
theorem dX5_run_2 : decode cX5_run 2 = .ok (.putfield 38, 3) := by decide +kernel
theorem dX5_run_5 : decode cX5_run 5 = .ok (.iload_n 1, 1) := by decide +kernel
theorem dX5_run_6 : decode cX5_run 6 = .ok (.iconst 1, 1) := by decide +kernel
theorem dX5_run_7 : decode cX5_run 7 = .ok (.sipush 500, 3) := by decide +kernel
theorem dX5_run_10 : decode cX5_run 10 = .ok (.invokestatic 45, 3) := by decide +kernel
theorem dX5_run_13 : decode cX5_run 13 = .ok (.ifCond .ne 9, 3) := by decide +kernel
theorem dX5_run_16 : decode cX5_run 16 = .ok (.aload_n 0, 1) := by decide +kernel
theorem dX5_run_17 : decode cX5_run 17 = .ok (.iconst 1, 1) := by decide +kernel
theorem dX5_run_18 : decode cX5_run 18 = .ok (.invokevirtual 52, 3) := by decide +kernel
theorem dX5_run_21 : decode cX5_run 21 = .ok (.ireturn, 1) := by decide +kernel
theorem dX5_run_22 : decode cX5_run 22 = .ok (.aload_n 0, 1) := by decide +kernel
theorem dX5_run_23 : decode cX5_run 23 = .ok (.getfield 116, 3) := by decide +kernel
theorem dX5_run_26 : decode cX5_run 26 = .ok (.istore_n 2, 1) := by decide +kernel
theorem dX5_run_27 : decode cX5_run 27 = .ok (.iconst 0, 1) := by decide +kernel
theorem dX5_run_28 : decode cX5_run 28 = .ok (.istore_n 3, 1) := by decide +kernel
theorem dX5_run_29 : decode cX5_run 29 = .ok (.iload_n 3, 1) := by decide +kernel
theorem dX5_run_30 : decode cX5_run 30 = .ok (.iload_n 1, 1) := by decide +kernel
theorem dX5_run_31 : decode cX5_run 31 = .ok (.if_icmp .ge 13, 3) := by decide +kernel
theorem dX5_run_34 : decode cX5_run 34 = .ok (.aload_n 0, 1) := by decide +kernel
theorem dX5_run_35 : decode cX5_run 35 = .ok (.invokevirtual 135, 3) := by decide +kernel
theorem dX5_run_38 : decode cX5_run 38 = .ok (.iinc 3 1, 3) := by decide +kernel
theorem dX5_run_41 : decode cX5_run 41 = .ok (.goto (-12), 3) := by decide +kernel
theorem dX5_run_44 : decode cX5_run 44 = .ok (.aload_n 0, 1) := by decide +kernel
theorem dX5_run_45 : decode cX5_run 45 = .ok (.getfield 116, 3) := by decide +kernel
theorem dX5_run_48 : decode cX5_run 48 = .ok (.iload_n 2, 1) := by decide +kernel
theorem dX5_run_49 : decode cX5_run 49 = .ok (.isub, 1) := by decide +kernel
theorem dX5_run_50 : decode cX5_run 50 = .ok (.ireturn, 1) := by decide +kernel
theorem dX5_heldByAll_0 : decode cX5_heldByAll 0 = .ok (.iconst 0, 1) := by decide +kernel
theorem dX5_heldByAll_1 : decode cX5_heldByAll 1 = .ok (.istore_n 1, 1) := by decide +kernel
theorem dX5_heldByAll_2 : decode cX5_heldByAll 2 = .ok (.iconst 0, 1) := by decide +kernel
theorem dX5_heldByAll_3 : decode cX5_heldByAll 3 = .ok (.istore_n 2, 1) := by decide +kernel
theorem dX5_heldByAll_4 : decode cX5_heldByAll 4 = .ok (.iload_n 2, 1) := by decide +kernel
theorem dX5_heldByAll_5 : decode cX5_heldByAll 5 = .ok (.aload_n 0, 1) := by decide +kernel
theorem dX5_heldByAll_6 : decode cX5_heldByAll 6 = .ok (.getfield 42, 3) := by decide +kernel
theorem dX5_heldByAll_9 : decode cX5_heldByAll 9 = .ok (.if_icmp .ge 18, 3) := by decide +kernel
theorem dX5_heldByAll_12 : decode cX5_heldByAll 12 = .ok (.iload_n 1, 1) := by decide +kernel
theorem dX5_heldByAll_13 : decode cX5_heldByAll 13 = .ok (.aload_n 0, 1) := by decide +kernel
theorem dX5_heldByAll_14 : decode cX5_heldByAll 14 = .ok (.iload_n 2, 1) := by decide +kernel
theorem dX5_heldByAll_15 : decode cX5_heldByAll 15 = .ok (.iconst 1, 1) := by decide +kernel
theorem dX5_heldByAll_16 : decode cX5_heldByAll 16 = .ok (.invokevirtual 67, 3) := by decide +kernel
theorem dX5_heldByAll_19 : decode cX5_heldByAll 19 = .ok (.iadd, 1) := by decide +kernel
theorem dX5_heldByAll_20 : decode cX5_heldByAll 20 = .ok (.istore_n 1, 1) := by decide +kernel
theorem dX5_heldByAll_21 : decode cX5_heldByAll 21 = .ok (.iinc 2 1, 3) := by decide +kernel
theorem dX5_heldByAll_24 : decode cX5_heldByAll 24 = .ok (.goto (-20), 3) := by decide +kernel
theorem dX5_heldByAll_27 : decode cX5_heldByAll 27 = .ok (.iload_n 1, 1) := by decide +kernel
theorem dX5_heldByAll_28 : decode cX5_heldByAll 28 = .ok (.ireturn, 1) := by decide +kernel
theorem dX5_counted_0 : decode cX5_counted 0 = .ok (.iload_n 1, 1) := by decide +kernel
theorem dX5_counted_1 : decode cX5_counted 1 = .ok (.tableswitch 60 0 4 #[35, 40, 45, 50, 55], 35) := by decide +kernel
theorem dX5_counted_36 : decode cX5_counted 36 = .ok (.aload_n 0, 1) := by decide +kernel
theorem dX5_counted_37 : decode cX5_counted 37 = .ok (.getfield 122, 3) := by decide +kernel
theorem dX5_counted_40 : decode cX5_counted 40 = .ok (.ireturn, 1) := by decide +kernel
theorem dX5_counted_41 : decode cX5_counted 41 = .ok (.aload_n 0, 1) := by decide +kernel
theorem dX5_counted_42 : decode cX5_counted 42 = .ok (.getfield 42, 3) := by decide +kernel
theorem dX5_counted_45 : decode cX5_counted 45 = .ok (.ireturn, 1) := by decide +kernel
theorem dX5_counted_46 : decode cX5_counted 46 = .ok (.aload_n 0, 1) := by decide +kernel
theorem dX5_counted_47 : decode cX5_counted 47 = .ok (.getfield 49, 3) := by decide +kernel
theorem dX5_counted_50 : decode cX5_counted 50 = .ok (.ireturn, 1) := by decide +kernel
theorem dX5_counted_51 : decode cX5_counted 51 = .ok (.aload_n 0, 1) := by decide +kernel
theorem dX5_counted_52 : decode cX5_counted 52 = .ok (.invokevirtual 73, 3) := by decide +kernel
theorem dX5_counted_55 : decode cX5_counted 55 = .ok (.ireturn, 1) := by decide +kernel
theorem dX5_counted_56 : decode cX5_counted 56 = .ok (.aload_n 0, 1) := by decide +kernel
theorem dX5_counted_57 : decode cX5_counted 57 = .ok (.getfield 116, 3) := by decide +kernel
theorem dX5_counted_60 : decode cX5_counted 60 = .ok (.ireturn, 1) := by decide +kernel
theorem dX5_counted_61 : decode cX5_counted 61 = .ok (.aload_n 0, 1) := by decide +kernel
theorem dX5_counted_62 : decode cX5_counted 62 = .ok (.invokevirtual 138, 3) := by decide +kernel
theorem dX5_counted_65 : decode cX5_counted 65 = .ok (.ireturn, 1) := by decide +kernel
theorem dX5_count_0 : decode cX5_count 0 = .ok (.aload_n 0, 1) := by decide +kernel
theorem dX5_count_1 : decode cX5_count 1 = .ok (.iconst 0, 1) := by decide +kernel
theorem dX5_count_2 : decode cX5_count 2 = .ok (.putfield 38, 3) := by decide +kernel
theorem dX5_count_5 : decode cX5_count 5 = .ok (.iload_n 1, 1) := by decide +kernel
theorem dX5_count_6 : decode cX5_count 6 = .ok (.iconst 0, 1) := by decide +kernel
theorem dX5_count_7 : decode cX5_count 7 = .ok (.iconst 5, 1) := by decide +kernel
theorem dX5_count_8 : decode cX5_count 8 = .ok (.invokestatic 45, 3) := by decide +kernel
theorem dX5_count_11 : decode cX5_count 11 = .ok (.ifCond .eq 11, 3) := by decide +kernel
theorem dX5_count_14 : decode cX5_count 14 = .ok (.aload_n 0, 1) := by decide +kernel
theorem dX5_count_15 : decode cX5_count 15 = .ok (.iload_n 1, 1) := by decide +kernel
theorem dX5_count_16 : decode cX5_count 16 = .ok (.invokevirtual 141, 3) := by decide +kernel
theorem dX5_count_19 : decode cX5_count 19 = .ok (.goto 8, 3) := by decide +kernel
theorem dX5_count_22 : decode cX5_count 22 = .ok (.aload_n 0, 1) := by decide +kernel
theorem dX5_count_23 : decode cX5_count 23 = .ok (.iconst 1, 1) := by decide +kernel
theorem dX5_count_24 : decode cX5_count 24 = .ok (.invokevirtual 52, 3) := by decide +kernel
theorem dX5_count_27 : decode cX5_count 27 = .ok (.ireturn, 1) := by decide +kernel
theorem dX5_sung_0 : decode cX5_sung 0 = .ok (.aload_n 0, 1) := by decide +kernel
theorem dX5_sung_1 : decode cX5_sung 1 = .ok (.iconst 0, 1) := by decide +kernel
theorem dX5_sung_2 : decode cX5_sung 2 = .ok (.putfield 38, 3) := by decide +kernel
theorem dX5_sung_5 : decode cX5_sung 5 = .ok (.iload_n 1, 1) := by decide +kernel
theorem dX5_sung_6 : decode cX5_sung 6 = .ok (.iconst 0, 1) := by decide +kernel
theorem dX5_sung_7 : decode cX5_sung 7 = .ok (.aload_n 0, 1) := by decide +kernel
theorem dX5_sung_8 : decode cX5_sung 8 = .ok (.getfield 119, 3) := by decide +kernel
theorem dX5_sung_11 : decode cX5_sung 11 = .ok (.iconst 1, 1) := by decide +kernel
theorem dX5_sung_12 : decode cX5_sung 12 = .ok (.isub, 1) := by decide +kernel
theorem dX5_sung_13 : decode cX5_sung 13 = .ok (.invokestatic 45, 3) := by decide +kernel
theorem dX5_sung_16 : decode cX5_sung 16 = .ok (.ifCond .eq 25, 3) := by decide +kernel
theorem dX5_sung_19 : decode cX5_sung 19 = .ok (.iload_n 2, 1) := by decide +kernel
theorem dX5_sung_20 : decode cX5_sung 20 = .ok (.iconst 0, 1) := by decide +kernel
theorem dX5_sung_21 : decode cX5_sung 21 = .ok (.iconst 3, 1) := by decide +kernel
theorem dX5_sung_22 : decode cX5_sung 22 = .ok (.invokestatic 45, 3) := by decide +kernel
theorem dX5_sung_25 : decode cX5_sung 25 = .ok (.ifCond .eq 16, 3) := by decide +kernel
theorem dX5_sung_28 : decode cX5_sung 28 = .ok (.aload_n 0, 1) := by decide +kernel
theorem dX5_sung_29 : decode cX5_sung 29 = .ok (.getfield 29, 3) := by decide +kernel
theorem dX5_sung_32 : decode cX5_sung 32 = .ok (.iconst 4, 1) := by decide +kernel
theorem dX5_sung_33 : decode cX5_sung 33 = .ok (.iload_n 1, 1) := by decide +kernel
theorem dX5_sung_34 : decode cX5_sung 34 = .ok (.imul, 1) := by decide +kernel
theorem dX5_sung_35 : decode cX5_sung 35 = .ok (.iload_n 2, 1) := by decide +kernel
theorem dX5_sung_36 : decode cX5_sung 36 = .ok (.iadd, 1) := by decide +kernel
theorem dX5_sung_37 : decode cX5_sung 37 = .ok (.iaload, 1) := by decide +kernel
theorem dX5_sung_38 : decode cX5_sung 38 = .ok (.goto 8, 3) := by decide +kernel
theorem dX5_sung_41 : decode cX5_sung 41 = .ok (.aload_n 0, 1) := by decide +kernel
theorem dX5_sung_42 : decode cX5_sung 42 = .ok (.iconst 1, 1) := by decide +kernel
theorem dX5_sung_43 : decode cX5_sung 43 = .ok (.invokevirtual 52, 3) := by decide +kernel
theorem dX5_sung_46 : decode cX5_sung 46 = .ok (.ireturn, 1) := by decide +kernel
theorem dX5_chord_0 : decode cX5_chord 0 = .ok (.aload_n 0, 1) := by decide +kernel
theorem dX5_chord_1 : decode cX5_chord 1 = .ok (.iconst 0, 1) := by decide +kernel
theorem dX5_chord_2 : decode cX5_chord 2 = .ok (.putfield 38, 3) := by decide +kernel
theorem dX5_chord_5 : decode cX5_chord 5 = .ok (.iload_n 1, 1) := by decide +kernel
theorem dX5_chord_6 : decode cX5_chord 6 = .ok (.ifCond .ge 9, 3) := by decide +kernel
theorem dX5_chord_9 : decode cX5_chord 9 = .ok (.aload_n 0, 1) := by decide +kernel
theorem dX5_chord_10 : decode cX5_chord 10 = .ok (.iconst 1, 1) := by decide +kernel
theorem dX5_chord_11 : decode cX5_chord 11 = .ok (.invokevirtual 52, 3) := by decide +kernel
theorem dX5_chord_14 : decode cX5_chord 14 = .ok (.ireturn, 1) := by decide +kernel
theorem dX5_chord_15 : decode cX5_chord 15 = .ok (.iconst 0, 1) := by decide +kernel
theorem dX5_chord_16 : decode cX5_chord 16 = .ok (.istore_n 2, 1) := by decide +kernel
theorem dX5_chord_17 : decode cX5_chord 17 = .ok (.iconst 0, 1) := by decide +kernel
theorem dX5_chord_18 : decode cX5_chord 18 = .ok (.istore_n 3, 1) := by decide +kernel
theorem dX5_chord_19 : decode cX5_chord 19 = .ok (.iload_n 3, 1) := by decide +kernel
theorem dX5_chord_20 : decode cX5_chord 20 = .ok (.aload_n 0, 1) := by decide +kernel
theorem dX5_chord_21 : decode cX5_chord 21 = .ok (.getfield 119, 3) := by decide +kernel
theorem dX5_chord_24 : decode cX5_chord 24 = .ok (.if_icmp .ge 105, 3) := by decide +kernel
theorem dX5_chord_27 : decode cX5_chord 27 = .ok (.aload_n 0, 1) := by decide +kernel
theorem dX5_chord_28 : decode cX5_chord 28 = .ok (.getfield 29, 3) := by decide +kernel
theorem dX5_chord_31 : decode cX5_chord 31 = .ok (.iconst 4, 1) := by decide +kernel
theorem dX5_chord_32 : decode cX5_chord 32 = .ok (.iload_n 3, 1) := by decide +kernel
theorem dX5_chord_33 : decode cX5_chord 33 = .ok (.imul, 1) := by decide +kernel
theorem dX5_chord_34 : decode cX5_chord 34 = .ok (.iaload, 1) := by decide +kernel
theorem dX5_chord_35 : decode cX5_chord 35 = .ok (.iload_n 1, 1) := by decide +kernel
theorem dX5_chord_36 : decode cX5_chord 36 = .ok (.if_icmp .ne 7, 3) := by decide +kernel
theorem dX5_chord_39 : decode cX5_chord 39 = .ok (.iconst 1, 1) := by decide +kernel
theorem dX5_chord_40 : decode cX5_chord 40 = .ok (.goto 4, 3) := by decide +kernel
theorem dX5_chord_43 : decode cX5_chord 43 = .ok (.iconst 0, 1) := by decide +kernel
theorem dX5_chord_44 : decode cX5_chord 44 = .ok (.istore 4, 2) := by decide +kernel
theorem dX5_chord_46 : decode cX5_chord 46 = .ok (.iconst 0, 1) := by decide +kernel
theorem dX5_chord_47 : decode cX5_chord 47 = .ok (.istore 5, 2) := by decide +kernel
theorem dX5_chord_49 : decode cX5_chord 49 = .ok (.iload 5, 2) := by decide +kernel
theorem dX5_chord_51 : decode cX5_chord 51 = .ok (.iload_n 3, 1) := by decide +kernel
theorem dX5_chord_52 : decode cX5_chord 52 = .ok (.if_icmp .ge 58, 3) := by decide +kernel
theorem dX5_chord_55 : decode cX5_chord 55 = .ok (.iload 4, 2) := by decide +kernel
theorem dX5_chord_57 : decode cX5_chord 57 = .ok (.ifCond .eq 44, 3) := by decide +kernel
theorem dX5_chord_60 : decode cX5_chord 60 = .ok (.aload_n 0, 1) := by decide +kernel
theorem dX5_chord_61 : decode cX5_chord 61 = .ok (.getfield 29, 3) := by decide +kernel
theorem dX5_chord_64 : decode cX5_chord 64 = .ok (.iconst 4, 1) := by decide +kernel
theorem dX5_chord_65 : decode cX5_chord 65 = .ok (.iload 5, 2) := by decide +kernel
theorem dX5_chord_67 : decode cX5_chord 67 = .ok (.imul, 1) := by decide +kernel
theorem dX5_chord_68 : decode cX5_chord 68 = .ok (.iaload, 1) := by decide +kernel
theorem dX5_chord_69 : decode cX5_chord 69 = .ok (.iload_n 1, 1) := by decide +kernel
theorem dX5_chord_70 : decode cX5_chord 70 = .ok (.if_icmp .ne 27, 3) := by decide +kernel
theorem dX5_chord_73 : decode cX5_chord 73 = .ok (.aload_n 0, 1) := by decide +kernel
theorem dX5_chord_74 : decode cX5_chord 74 = .ok (.getfield 29, 3) := by decide +kernel
theorem dX5_chord_77 : decode cX5_chord 77 = .ok (.iconst 4, 1) := by decide +kernel
theorem dX5_chord_78 : decode cX5_chord 78 = .ok (.iload 5, 2) := by decide +kernel
theorem dX5_chord_80 : decode cX5_chord 80 = .ok (.imul, 1) := by decide +kernel
theorem dX5_chord_81 : decode cX5_chord 81 = .ok (.iconst 3, 1) := by decide +kernel
theorem dX5_chord_82 : decode cX5_chord 82 = .ok (.iadd, 1) := by decide +kernel
theorem dX5_chord_83 : decode cX5_chord 83 = .ok (.iaload, 1) := by decide +kernel
theorem dX5_chord_84 : decode cX5_chord 84 = .ok (.aload_n 0, 1) := by decide +kernel
theorem dX5_chord_85 : decode cX5_chord 85 = .ok (.getfield 29, 3) := by decide +kernel
theorem dX5_chord_88 : decode cX5_chord 88 = .ok (.iconst 4, 1) := by decide +kernel
theorem dX5_chord_89 : decode cX5_chord 89 = .ok (.iload_n 3, 1) := by decide +kernel
theorem dX5_chord_90 : decode cX5_chord 90 = .ok (.imul, 1) := by decide +kernel
theorem dX5_chord_91 : decode cX5_chord 91 = .ok (.iconst 3, 1) := by decide +kernel
theorem dX5_chord_92 : decode cX5_chord 92 = .ok (.iadd, 1) := by decide +kernel
theorem dX5_chord_93 : decode cX5_chord 93 = .ok (.iaload, 1) := by decide +kernel
theorem dX5_chord_94 : decode cX5_chord 94 = .ok (.if_icmp .eq 7, 3) := by decide +kernel
theorem dX5_chord_97 : decode cX5_chord 97 = .ok (.iconst 1, 1) := by decide +kernel
theorem dX5_chord_98 : decode cX5_chord 98 = .ok (.goto 4, 3) := by decide +kernel
theorem dX5_chord_101 : decode cX5_chord 101 = .ok (.iconst 0, 1) := by decide +kernel
theorem dX5_chord_102 : decode cX5_chord 102 = .ok (.istore 4, 2) := by decide +kernel
theorem dX5_chord_104 : decode cX5_chord 104 = .ok (.iinc 5 1, 3) := by decide +kernel
theorem dX5_chord_107 : decode cX5_chord 107 = .ok (.goto (-58), 3) := by decide +kernel
theorem dX5_chord_110 : decode cX5_chord 110 = .ok (.iload_n 2, 1) := by decide +kernel
theorem dX5_chord_111 : decode cX5_chord 111 = .ok (.iload 4, 2) := by decide +kernel
theorem dX5_chord_113 : decode cX5_chord 113 = .ok (.ifCond .eq 7, 3) := by decide +kernel
theorem dX5_chord_116 : decode cX5_chord 116 = .ok (.iconst 1, 1) := by decide +kernel
theorem dX5_chord_117 : decode cX5_chord 117 = .ok (.goto 4, 3) := by decide +kernel
theorem dX5_chord_120 : decode cX5_chord 120 = .ok (.iconst 0, 1) := by decide +kernel
theorem dX5_chord_121 : decode cX5_chord 121 = .ok (.iadd, 1) := by decide +kernel
theorem dX5_chord_122 : decode cX5_chord 122 = .ok (.istore_n 2, 1) := by decide +kernel
theorem dX5_chord_123 : decode cX5_chord 123 = .ok (.iinc 3 1, 3) := by decide +kernel
theorem dX5_chord_126 : decode cX5_chord 126 = .ok (.goto (-107), 3) := by decide +kernel
theorem dX5_chord_129 : decode cX5_chord 129 = .ok (.iload_n 2, 1) := by decide +kernel
theorem dX5_chord_130 : decode cX5_chord 130 = .ok (.ireturn, 1) := by decide +kernel
theorem dX5_longest_0 : decode cX5_longest 0 = .ok (.aload_n 0, 1) := by decide +kernel
theorem dX5_longest_1 : decode cX5_longest 1 = .ok (.iconst 0, 1) := by decide +kernel
theorem dX5_longest_2 : decode cX5_longest 2 = .ok (.putfield 38, 3) := by decide +kernel
theorem dX5_longest_5 : decode cX5_longest 5 = .ok (.iconst 0, 1) := by decide +kernel
theorem dX5_longest_6 : decode cX5_longest 6 = .ok (.istore_n 1, 1) := by decide +kernel
theorem dX5_longest_7 : decode cX5_longest 7 = .ok (.iconst 0, 1) := by decide +kernel
theorem dX5_longest_8 : decode cX5_longest 8 = .ok (.istore_n 2, 1) := by decide +kernel
theorem dX5_longest_9 : decode cX5_longest 9 = .ok (.iconst 0, 1) := by decide +kernel
theorem dX5_longest_10 : decode cX5_longest 10 = .ok (.istore_n 3, 1) := by decide +kernel
theorem dX5_longest_11 : decode cX5_longest 11 = .ok (.iload_n 3, 1) := by decide +kernel
theorem dX5_longest_12 : decode cX5_longest 12 = .ok (.aload_n 0, 1) := by decide +kernel
theorem dX5_longest_13 : decode cX5_longest 13 = .ok (.getfield 119, 3) := by decide +kernel
theorem dX5_longest_16 : decode cX5_longest 16 = .ok (.if_icmp .ge 50, 3) := by decide +kernel
theorem dX5_longest_19 : decode cX5_longest 19 = .ok (.iload_n 3, 1) := by decide +kernel
theorem dX5_longest_20 : decode cX5_longest 20 = .ok (.ifCond .le 32, 3) := by decide +kernel
theorem dX5_longest_23 : decode cX5_longest 23 = .ok (.aload_n 0, 1) := by decide +kernel
theorem dX5_longest_24 : decode cX5_longest 24 = .ok (.getfield 29, 3) := by decide +kernel
theorem dX5_longest_27 : decode cX5_longest 27 = .ok (.iconst 4, 1) := by decide +kernel
theorem dX5_longest_28 : decode cX5_longest 28 = .ok (.iload_n 3, 1) := by decide +kernel
theorem dX5_longest_29 : decode cX5_longest 29 = .ok (.imul, 1) := by decide +kernel
theorem dX5_longest_30 : decode cX5_longest 30 = .ok (.iconst 1, 1) := by decide +kernel
theorem dX5_longest_31 : decode cX5_longest 31 = .ok (.iadd, 1) := by decide +kernel
theorem dX5_longest_32 : decode cX5_longest 32 = .ok (.iaload, 1) := by decide +kernel
theorem dX5_longest_33 : decode cX5_longest 33 = .ok (.aload_n 0, 1) := by decide +kernel
theorem dX5_longest_34 : decode cX5_longest 34 = .ok (.getfield 29, 3) := by decide +kernel
theorem dX5_longest_37 : decode cX5_longest 37 = .ok (.iconst 4, 1) := by decide +kernel
theorem dX5_longest_38 : decode cX5_longest 38 = .ok (.iload_n 3, 1) := by decide +kernel
theorem dX5_longest_39 : decode cX5_longest 39 = .ok (.imul, 1) := by decide +kernel
theorem dX5_longest_40 : decode cX5_longest 40 = .ok (.iconst 3, 1) := by decide +kernel
theorem dX5_longest_41 : decode cX5_longest 41 = .ok (.isub, 1) := by decide +kernel
theorem dX5_longest_42 : decode cX5_longest 42 = .ok (.iaload, 1) := by decide +kernel
theorem dX5_longest_43 : decode cX5_longest 43 = .ok (.if_icmp .ne 9, 3) := by decide +kernel
theorem dX5_longest_46 : decode cX5_longest 46 = .ok (.iload_n 2, 1) := by decide +kernel
theorem dX5_longest_47 : decode cX5_longest 47 = .ok (.iconst 1, 1) := by decide +kernel
theorem dX5_longest_48 : decode cX5_longest 48 = .ok (.iadd, 1) := by decide +kernel
theorem dX5_longest_49 : decode cX5_longest 49 = .ok (.goto 4, 3) := by decide +kernel
theorem dX5_longest_52 : decode cX5_longest 52 = .ok (.iconst 1, 1) := by decide +kernel
theorem dX5_longest_53 : decode cX5_longest 53 = .ok (.istore_n 2, 1) := by decide +kernel
theorem dX5_longest_54 : decode cX5_longest 54 = .ok (.iload_n 1, 1) := by decide +kernel
theorem dX5_longest_55 : decode cX5_longest 55 = .ok (.iload_n 2, 1) := by decide +kernel
theorem dX5_longest_56 : decode cX5_longest 56 = .ok (.invokestatic 70, 3) := by decide +kernel
theorem dX5_longest_59 : decode cX5_longest 59 = .ok (.istore_n 1, 1) := by decide +kernel
theorem dX5_longest_60 : decode cX5_longest 60 = .ok (.iinc 3 1, 3) := by decide +kernel
theorem dX5_longest_63 : decode cX5_longest 63 = .ok (.goto (-52), 3) := by decide +kernel
theorem dX5_longest_66 : decode cX5_longest 66 = .ok (.iload_n 1, 1) := by decide +kernel
theorem dX5_longest_67 : decode cX5_longest 67 = .ok (.ireturn, 1) := by decide +kernel
theorem dX5_emptySongs_0 : decode cX5_emptySongs 0 = .ok (.aload_n 0, 1) := by decide +kernel
theorem dX5_emptySongs_1 : decode cX5_emptySongs 1 = .ok (.iconst 0, 1) := by decide +kernel
theorem dX5_emptySongs_2 : decode cX5_emptySongs 2 = .ok (.putfield 38, 3) := by decide +kernel
theorem dX5_emptySongs_5 : decode cX5_emptySongs 5 = .ok (.aload_n 0, 1) := by decide +kernel
theorem dX5_emptySongs_6 : decode cX5_emptySongs 6 = .ok (.getfield 119, 3) := by decide +kernel
theorem dX5_emptySongs_9 : decode cX5_emptySongs 9 = .ok (.istore_n 1, 1) := by decide +kernel
theorem dX5_emptySongs_10 : decode cX5_emptySongs 10 = .ok (.aload_n 0, 1) := by decide +kernel
theorem dX5_emptySongs_11 : decode cX5_emptySongs 11 = .ok (.iconst 0, 1) := by decide +kernel
theorem dX5_emptySongs_12 : decode cX5_emptySongs 12 = .ok (.putfield 119, 3) := by decide +kernel
theorem dX5_emptySongs_15 : decode cX5_emptySongs 15 = .ok (.aload_n 0, 1) := by decide +kernel
theorem dX5_emptySongs_16 : decode cX5_emptySongs 16 = .ok (.iconst 0, 1) := by decide +kernel
theorem dX5_emptySongs_17 : decode cX5_emptySongs 17 = .ok (.putfield 116, 3) := by decide +kernel
theorem dX5_emptySongs_20 : decode cX5_emptySongs 20 = .ok (.iload_n 1, 1) := by decide +kernel
theorem dX5_emptySongs_21 : decode cX5_emptySongs 21 = .ok (.ireturn, 1) := by decide +kernel
theorem dX5_isDown_0 : decode cX5_isDown 0 = .ok (.iconst 0, 1) := by decide +kernel
theorem dX5_isDown_1 : decode cX5_isDown 1 = .ok (.istore_n 1, 1) := by decide +kernel
theorem dX5_isDown_2 : decode cX5_isDown 2 = .ok (.iload_n 1, 1) := by decide +kernel
theorem dX5_isDown_3 : decode cX5_isDown 3 = .ok (.aload_n 0, 1) := by decide +kernel
theorem dX5_isDown_4 : decode cX5_isDown 4 = .ok (.getfield 42, 3) := by decide +kernel
theorem dX5_isDown_7 : decode cX5_isDown 7 = .ok (.if_icmp .ge 29, 3) := by decide +kernel
theorem dX5_isDown_10 : decode cX5_isDown 10 = .ok (.aload_n 0, 1) := by decide +kernel
theorem dX5_isDown_11 : decode cX5_isDown 11 = .ok (.iload_n 1, 1) := by decide +kernel
theorem dX5_isDown_12 : decode cX5_isDown 12 = .ok (.iconst 4, 1) := by decide +kernel
theorem dX5_isDown_13 : decode cX5_isDown 13 = .ok (.invokevirtual 67, 3) := by decide +kernel
theorem dX5_isDown_16 : decode cX5_isDown 16 = .ok (.ifCond .ne 14, 3) := by decide +kernel
theorem dX5_isDown_19 : decode cX5_isDown 19 = .ok (.aload_n 0, 1) := by decide +kernel
theorem dX5_isDown_20 : decode cX5_isDown 20 = .ok (.iload_n 1, 1) := by decide +kernel
theorem dX5_isDown_21 : decode cX5_isDown 21 = .ok (.iconst 1, 1) := by decide +kernel
theorem dX5_isDown_22 : decode cX5_isDown 22 = .ok (.invokevirtual 67, 3) := by decide +kernel
theorem dX5_isDown_25 : decode cX5_isDown 25 = .ok (.ifCond .le 5, 3) := by decide +kernel
theorem dX5_isDown_28 : decode cX5_isDown 28 = .ok (.iconst 0, 1) := by decide +kernel
theorem dX5_isDown_29 : decode cX5_isDown 29 = .ok (.ireturn, 1) := by decide +kernel
theorem dX5_isDown_30 : decode cX5_isDown 30 = .ok (.iinc 1 1, 3) := by decide +kernel
theorem dX5_isDown_33 : decode cX5_isDown 33 = .ok (.goto (-31), 3) := by decide +kernel
theorem dX5_isDown_36 : decode cX5_isDown 36 = .ok (.iconst 1, 1) := by decide +kernel
theorem dX5_isDown_37 : decode cX5_isDown 37 = .ok (.ireturn, 1) := by decide +kernel
theorem dX5_runsDown_0 : decode cX5_runsDown 0 = .ok (.aload_n 0, 1) := by decide +kernel
theorem dX5_runsDown_1 : decode cX5_runsDown 1 = .ok (.iconst 0, 1) := by decide +kernel
theorem dX5_runsDown_2 : decode cX5_runsDown 2 = .ok (.putfield 38, 3) := by decide +kernel
theorem dX5_runsDown_5 : decode cX5_runsDown 5 = .ok (.iload_n 1, 1) := by decide +kernel
theorem dX5_runsDown_6 : decode cX5_runsDown 6 = .ok (.iconst 1, 1) := by decide +kernel
theorem dX5_runsDown_7 : decode cX5_runsDown 7 = .ok (.sipush 2000, 3) := by decide +kernel
theorem dX5_runsDown_10 : decode cX5_runsDown 10 = .ok (.invokestatic 45, 3) := by decide +kernel
theorem dX5_runsDown_13 : decode cX5_runsDown 13 = .ok (.ifCond .ne 9, 3) := by decide +kernel
theorem dX5_runsDown_16 : decode cX5_runsDown 16 = .ok (.aload_n 0, 1) := by decide +kernel
theorem dX5_runsDown_17 : decode cX5_runsDown 17 = .ok (.iconst 1, 1) := by decide +kernel
theorem dX5_runsDown_18 : decode cX5_runsDown 18 = .ok (.invokevirtual 52, 3) := by decide +kernel
theorem dX5_runsDown_21 : decode cX5_runsDown 21 = .ok (.ireturn, 1) := by decide +kernel
theorem dX5_runsDown_22 : decode cX5_runsDown 22 = .ok (.aload_n 0, 1) := by decide +kernel
theorem dX5_runsDown_23 : decode cX5_runsDown 23 = .ok (.getfield 9, 3) := by decide +kernel
theorem dX5_runsDown_26 : decode cX5_runsDown 26 = .ok (.iconst 0, 1) := by decide +kernel
theorem dX5_runsDown_27 : decode cX5_runsDown 27 = .ok (.aload_n 0, 1) := by decide +kernel
theorem dX5_runsDown_28 : decode cX5_runsDown 28 = .ok (.getfield 32, 3) := by decide +kernel
theorem dX5_runsDown_31 : decode cX5_runsDown 31 = .ok (.iconst 0, 1) := by decide +kernel
theorem dX5_runsDown_32 : decode cX5_runsDown 32 = .ok (.bipush 20, 2) := by decide +kernel
theorem dX5_runsDown_34 : decode cX5_runsDown 34 = .ok (.invokestatic 90, 3) := by decide +kernel
theorem dX5_runsDown_37 : decode cX5_runsDown 37 = .ok (.aload_n 0, 1) := by decide +kernel
theorem dX5_runsDown_38 : decode cX5_runsDown 38 = .ok (.getfield 13, 3) := by decide +kernel
theorem dX5_runsDown_41 : decode cX5_runsDown 41 = .ok (.iconst 0, 1) := by decide +kernel
theorem dX5_runsDown_42 : decode cX5_runsDown 42 = .ok (.aload_n 0, 1) := by decide +kernel
theorem dX5_runsDown_43 : decode cX5_runsDown 43 = .ok (.getfield 35, 3) := by decide +kernel
theorem dX5_runsDown_46 : decode cX5_runsDown 46 = .ok (.iconst 0, 1) := by decide +kernel
theorem dX5_runsDown_47 : decode cX5_runsDown 47 = .ok (.bipush 88, 2) := by decide +kernel
theorem dX5_runsDown_49 : decode cX5_runsDown 49 = .ok (.invokestatic 90, 3) := by decide +kernel
theorem dX5_runsDown_52 : decode cX5_runsDown 52 = .ok (.aload_n 0, 1) := by decide +kernel
theorem dX5_runsDown_53 : decode cX5_runsDown 53 = .ok (.getfield 122, 3) := by decide +kernel
theorem dX5_runsDown_56 : decode cX5_runsDown 56 = .ok (.istore_n 2, 1) := by decide +kernel
theorem dX5_runsDown_57 : decode cX5_runsDown 57 = .ok (.aload_n 0, 1) := by decide +kernel
theorem dX5_runsDown_58 : decode cX5_runsDown 58 = .ok (.iconst 1, 1) := by decide +kernel
theorem dX5_runsDown_59 : decode cX5_runsDown 59 = .ok (.putfield 112, 3) := by decide +kernel
theorem dX5_runsDown_62 : decode cX5_runsDown 62 = .ok (.aload_n 0, 1) := by decide +kernel
theorem dX5_runsDown_63 : decode cX5_runsDown 63 = .ok (.invokevirtual 144, 3) := by decide +kernel
theorem dX5_runsDown_66 : decode cX5_runsDown 66 = .ok (.ifCond .ne 20, 3) := by decide +kernel
theorem dX5_runsDown_69 : decode cX5_runsDown 69 = .ok (.aload_n 0, 1) := by decide +kernel
theorem dX5_runsDown_70 : decode cX5_runsDown 70 = .ok (.getfield 122, 3) := by decide +kernel
theorem dX5_runsDown_73 : decode cX5_runsDown 73 = .ok (.iload_n 2, 1) := by decide +kernel
theorem dX5_runsDown_74 : decode cX5_runsDown 74 = .ok (.iload_n 1, 1) := by decide +kernel
theorem dX5_runsDown_75 : decode cX5_runsDown 75 = .ok (.iadd, 1) := by decide +kernel
theorem dX5_runsDown_76 : decode cX5_runsDown 76 = .ok (.if_icmp .ge 10, 3) := by decide +kernel
theorem dX5_runsDown_79 : decode cX5_runsDown 79 = .ok (.aload_n 0, 1) := by decide +kernel
theorem dX5_runsDown_80 : decode cX5_runsDown 80 = .ok (.invokevirtual 135, 3) := by decide +kernel
theorem dX5_runsDown_83 : decode cX5_runsDown 83 = .ok (.goto (-21), 3) := by decide +kernel
theorem dX5_runsDown_86 : decode cX5_runsDown 86 = .ok (.aload_n 0, 1) := by decide +kernel
theorem dX5_runsDown_87 : decode cX5_runsDown 87 = .ok (.invokevirtual 144, 3) := by decide +kernel
theorem dX5_runsDown_90 : decode cX5_runsDown 90 = .ok (.ifCond .eq 10, 3) := by decide +kernel
theorem dX5_runsDown_93 : decode cX5_runsDown 93 = .ok (.aload_n 0, 1) := by decide +kernel
theorem dX5_runsDown_94 : decode cX5_runsDown 94 = .ok (.getfield 122, 3) := by decide +kernel
theorem dX5_runsDown_97 : decode cX5_runsDown 97 = .ok (.goto 4, 3) := by decide +kernel
theorem dX5_runsDown_100 : decode cX5_runsDown 100 = .ok (.iconst (-1), 1) := by decide +kernel
theorem dX5_runsDown_101 : decode cX5_runsDown 101 = .ok (.istore_n 3, 1) := by decide +kernel
theorem dX5_runsDown_102 : decode cX5_runsDown 102 = .ok (.aload_n 0, 1) := by decide +kernel
theorem dX5_runsDown_103 : decode cX5_runsDown 103 = .ok (.iconst 0, 1) := by decide +kernel
theorem dX5_runsDown_104 : decode cX5_runsDown 104 = .ok (.putfield 112, 3) := by decide +kernel
theorem dX5_runsDown_107 : decode cX5_runsDown 107 = .ok (.aload_n 0, 1) := by decide +kernel
theorem dX5_runsDown_108 : decode cX5_runsDown 108 = .ok (.iload_n 2, 1) := by decide +kernel
theorem dX5_runsDown_109 : decode cX5_runsDown 109 = .ok (.putfield 122, 3) := by decide +kernel
theorem dX5_runsDown_112 : decode cX5_runsDown 112 = .ok (.aload_n 0, 1) := by decide +kernel
theorem dX5_runsDown_113 : decode cX5_runsDown 113 = .ok (.getfield 32, 3) := by decide +kernel
theorem dX5_runsDown_116 : decode cX5_runsDown 116 = .ok (.iconst 0, 1) := by decide +kernel
theorem dX5_runsDown_117 : decode cX5_runsDown 117 = .ok (.aload_n 0, 1) := by decide +kernel
theorem dX5_runsDown_118 : decode cX5_runsDown 118 = .ok (.getfield 9, 3) := by decide +kernel
theorem dX5_runsDown_121 : decode cX5_runsDown 121 = .ok (.iconst 0, 1) := by decide +kernel
theorem dX5_runsDown_122 : decode cX5_runsDown 122 = .ok (.bipush 20, 2) := by decide +kernel
theorem dX5_runsDown_124 : decode cX5_runsDown 124 = .ok (.invokestatic 90, 3) := by decide +kernel
theorem dX5_runsDown_127 : decode cX5_runsDown 127 = .ok (.aload_n 0, 1) := by decide +kernel
theorem dX5_runsDown_128 : decode cX5_runsDown 128 = .ok (.getfield 35, 3) := by decide +kernel
theorem dX5_runsDown_131 : decode cX5_runsDown 131 = .ok (.iconst 0, 1) := by decide +kernel
theorem dX5_runsDown_132 : decode cX5_runsDown 132 = .ok (.aload_n 0, 1) := by decide +kernel
theorem dX5_runsDown_133 : decode cX5_runsDown 133 = .ok (.getfield 13, 3) := by decide +kernel
theorem dX5_runsDown_136 : decode cX5_runsDown 136 = .ok (.iconst 0, 1) := by decide +kernel
theorem dX5_runsDown_137 : decode cX5_runsDown 137 = .ok (.bipush 88, 2) := by decide +kernel
theorem dX5_runsDown_139 : decode cX5_runsDown 139 = .ok (.invokestatic 90, 3) := by decide +kernel
theorem dX5_runsDown_142 : decode cX5_runsDown 142 = .ok (.iload_n 3, 1) := by decide +kernel
theorem dX5_runsDown_143 : decode cX5_runsDown 143 = .ok (.ireturn, 1) := by decide +kernel
theorem dX5_tension_0 : decode cX5_tension 0 = .ok (.aload_n 0, 1) := by decide +kernel
theorem dX5_tension_1 : decode cX5_tension 1 = .ok (.iconst 0, 1) := by decide +kernel
theorem dX5_tension_2 : decode cX5_tension 2 = .ok (.putfield 38, 3) := by decide +kernel
theorem dX5_tension_5 : decode cX5_tension 5 = .ok (.aload_n 0, 1) := by decide +kernel
theorem dX5_tension_6 : decode cX5_tension 6 = .ok (.getfield 42, 3) := by decide +kernel
theorem dX5_tension_9 : decode cX5_tension 9 = .ok (.ifCond .ne 7, 3) := by decide +kernel
theorem dX5_tension_12 : decode cX5_tension 12 = .ok (.dconst 0, 1) := by decide +kernel
theorem dX5_tension_13 : decode cX5_tension 13 = .ok (.goto 18, 3) := by decide +kernel
theorem dX5_tension_16 : decode cX5_tension 16 = .ok (.aload_n 0, 1) := by decide +kernel
theorem dX5_tension_17 : decode cX5_tension 17 = .ok (.invokevirtual 138, 3) := by decide +kernel
theorem dX5_tension_20 : decode cX5_tension 20 = .ok (.i2d, 1) := by decide +kernel
theorem dX5_tension_21 : decode cX5_tension 21 = .ok (.sipush 1000, 3) := by decide +kernel
theorem dX5_tension_24 : decode cX5_tension 24 = .ok (.aload_n 0, 1) := by decide +kernel
theorem dX5_tension_25 : decode cX5_tension 25 = .ok (.getfield 42, 3) := by decide +kernel
theorem dX5_tension_28 : decode cX5_tension 28 = .ok (.imul, 1) := by decide +kernel
theorem dX5_tension_29 : decode cX5_tension 29 = .ok (.i2d, 1) := by decide +kernel
theorem dX5_tension_30 : decode cX5_tension 30 = .ok (.ddiv, 1) := by decide +kernel
theorem dX5_tension_31 : decode cX5_tension 31 = .ok (.dreturn, 1) := by decide +kernel
theorem dX5_digest_0 : decode cX5_digest 0 = .ok (.aload_n 0, 1) := by decide +kernel
theorem dX5_digest_1 : decode cX5_digest 1 = .ok (.iconst 0, 1) := by decide +kernel
theorem dX5_digest_2 : decode cX5_digest 2 = .ok (.putfield 38, 3) := by decide +kernel
theorem dX5_digest_5 : decode cX5_digest 5 = .ok (.ldc2_w 148, 3) := by decide +kernel
theorem dX5_digest_8 : decode cX5_digest 8 = .ok (.lstore_n 1, 1) := by decide +kernel
theorem dX5_digest_9 : decode cX5_digest 9 = .ok (.iconst 0, 1) := by decide +kernel
theorem dX5_digest_10 : decode cX5_digest 10 = .ok (.istore_n 3, 1) := by decide +kernel
theorem dX5_digest_11 : decode cX5_digest 11 = .ok (.iload_n 3, 1) := by decide +kernel
theorem dX5_digest_12 : decode cX5_digest 12 = .ok (.bipush 6, 2) := by decide +kernel
theorem dX5_digest_14 : decode cX5_digest 14 = .ok (.if_icmp .ge 22, 3) := by decide +kernel
theorem dX5_digest_17 : decode cX5_digest 17 = .ok (.lload_n 1, 1) := by decide +kernel
theorem dX5_digest_18 : decode cX5_digest 18 = .ok (.ldc2_w 150, 3) := by decide +kernel
theorem dX5_digest_21 : decode cX5_digest 21 = .ok (.lmul, 1) := by decide +kernel
theorem dX5_digest_22 : decode cX5_digest 22 = .ok (.aload_n 0, 1) := by decide +kernel
theorem dX5_digest_23 : decode cX5_digest 23 = .ok (.iload_n 3, 1) := by decide +kernel
theorem dX5_digest_24 : decode cX5_digest 24 = .ok (.invokevirtual 141, 3) := by decide +kernel
theorem dX5_digest_27 : decode cX5_digest 27 = .ok (.i2l, 1) := by decide +kernel
theorem dX5_digest_28 : decode cX5_digest 28 = .ok (.ladd, 1) := by decide +kernel
theorem dX5_digest_29 : decode cX5_digest 29 = .ok (.lstore_n 1, 1) := by decide +kernel
theorem dX5_digest_30 : decode cX5_digest 30 = .ok (.iinc 3 1, 3) := by decide +kernel
theorem dX5_digest_33 : decode cX5_digest 33 = .ok (.goto (-22), 3) := by decide +kernel
theorem dX5_digest_36 : decode cX5_digest 36 = .ok (.iconst 0, 1) := by decide +kernel
theorem dX5_digest_37 : decode cX5_digest 37 = .ok (.istore_n 3, 1) := by decide +kernel
theorem dX5_digest_38 : decode cX5_digest 38 = .ok (.iload_n 3, 1) := by decide +kernel
theorem dX5_digest_39 : decode cX5_digest 39 = .ok (.aload_n 0, 1) := by decide +kernel
theorem dX5_digest_40 : decode cX5_digest 40 = .ok (.getfield 42, 3) := by decide +kernel
theorem dX5_digest_43 : decode cX5_digest 43 = .ok (.if_icmp .ge 40, 3) := by decide +kernel
theorem dX5_digest_46 : decode cX5_digest 46 = .ok (.iconst 0, 1) := by decide +kernel
theorem dX5_digest_47 : decode cX5_digest 47 = .ok (.istore 4, 2) := by decide +kernel
theorem dX5_digest_49 : decode cX5_digest 49 = .ok (.iload 4, 2) := by decide +kernel
theorem dX5_digest_51 : decode cX5_digest 51 = .ok (.bipush 7, 2) := by decide +kernel
theorem dX5_digest_53 : decode cX5_digest 53 = .ok (.if_icmp .ge 24, 3) := by decide +kernel
theorem dX5_digest_56 : decode cX5_digest 56 = .ok (.lload_n 1, 1) := by decide +kernel
theorem dX5_digest_57 : decode cX5_digest 57 = .ok (.ldc2_w 150, 3) := by decide +kernel
theorem dX5_digest_60 : decode cX5_digest 60 = .ok (.lmul, 1) := by decide +kernel
theorem dX5_digest_61 : decode cX5_digest 61 = .ok (.aload_n 0, 1) := by decide +kernel
theorem dX5_digest_62 : decode cX5_digest 62 = .ok (.iload_n 3, 1) := by decide +kernel
theorem dX5_digest_63 : decode cX5_digest 63 = .ok (.iload 4, 2) := by decide +kernel
theorem dX5_digest_65 : decode cX5_digest 65 = .ok (.invokevirtual 87, 3) := by decide +kernel
theorem dX5_digest_68 : decode cX5_digest 68 = .ok (.i2l, 1) := by decide +kernel
theorem dX5_digest_69 : decode cX5_digest 69 = .ok (.ladd, 1) := by decide +kernel
theorem dX5_digest_70 : decode cX5_digest 70 = .ok (.lstore_n 1, 1) := by decide +kernel
theorem dX5_digest_71 : decode cX5_digest 71 = .ok (.iinc 4 1, 3) := by decide +kernel
theorem dX5_digest_74 : decode cX5_digest 74 = .ok (.goto (-25), 3) := by decide +kernel
theorem dX5_digest_77 : decode cX5_digest 77 = .ok (.iinc 3 1, 3) := by decide +kernel
theorem dX5_digest_80 : decode cX5_digest 80 = .ok (.goto (-42), 3) := by decide +kernel
theorem dX5_digest_83 : decode cX5_digest 83 = .ok (.iconst 0, 1) := by decide +kernel
theorem dX5_digest_84 : decode cX5_digest 84 = .ok (.istore_n 3, 1) := by decide +kernel
theorem dX5_digest_85 : decode cX5_digest 85 = .ok (.iload_n 3, 1) := by decide +kernel
theorem dX5_digest_86 : decode cX5_digest 86 = .ok (.aload_n 0, 1) := by decide +kernel
theorem dX5_digest_87 : decode cX5_digest 87 = .ok (.getfield 49, 3) := by decide +kernel
theorem dX5_digest_90 : decode cX5_digest 90 = .ok (.if_icmp .ge 112, 3) := by decide +kernel
theorem dX5_digest_93 : decode cX5_digest 93 = .ok (.iconst 0, 1) := by decide +kernel
theorem dX5_digest_94 : decode cX5_digest 94 = .ok (.istore 4, 2) := by decide +kernel
theorem dX5_digest_96 : decode cX5_digest 96 = .ok (.iload 4, 2) := by decide +kernel
theorem dX5_digest_98 : decode cX5_digest 98 = .ok (.bipush 10, 2) := by decide +kernel
theorem dX5_digest_100 : decode cX5_digest 100 = .ok (.if_icmp .ge 24, 3) := by decide +kernel
theorem dX5_digest_103 : decode cX5_digest 103 = .ok (.lload_n 1, 1) := by decide +kernel
theorem dX5_digest_104 : decode cX5_digest 104 = .ok (.ldc2_w 150, 3) := by decide +kernel
theorem dX5_digest_107 : decode cX5_digest 107 = .ok (.lmul, 1) := by decide +kernel
theorem dX5_digest_108 : decode cX5_digest 108 = .ok (.aload_n 0, 1) := by decide +kernel
theorem dX5_digest_109 : decode cX5_digest 109 = .ok (.iload_n 3, 1) := by decide +kernel
theorem dX5_digest_110 : decode cX5_digest 110 = .ok (.iload 4, 2) := by decide +kernel
theorem dX5_digest_112 : decode cX5_digest 112 = .ok (.invokevirtual 77, 3) := by decide +kernel
theorem dX5_digest_115 : decode cX5_digest 115 = .ok (.i2l, 1) := by decide +kernel
theorem dX5_digest_116 : decode cX5_digest 116 = .ok (.ladd, 1) := by decide +kernel
theorem dX5_digest_117 : decode cX5_digest 117 = .ok (.lstore_n 1, 1) := by decide +kernel
theorem dX5_digest_118 : decode cX5_digest 118 = .ok (.iinc 4 1, 3) := by decide +kernel
theorem dX5_digest_121 : decode cX5_digest 121 = .ok (.goto (-25), 3) := by decide +kernel
theorem dX5_digest_124 : decode cX5_digest 124 = .ok (.iconst 0, 1) := by decide +kernel
theorem dX5_digest_125 : decode cX5_digest 125 = .ok (.istore 4, 2) := by decide +kernel
theorem dX5_digest_127 : decode cX5_digest 127 = .ok (.iload 4, 2) := by decide +kernel
theorem dX5_digest_129 : decode cX5_digest 129 = .ok (.bipush 6, 2) := by decide +kernel
theorem dX5_digest_131 : decode cX5_digest 131 = .ok (.if_icmp .ge 29, 3) := by decide +kernel
theorem dX5_digest_134 : decode cX5_digest 134 = .ok (.lload_n 1, 1) := by decide +kernel
theorem dX5_digest_135 : decode cX5_digest 135 = .ok (.ldc2_w 150, 3) := by decide +kernel
theorem dX5_digest_138 : decode cX5_digest 138 = .ok (.lmul, 1) := by decide +kernel
theorem dX5_digest_139 : decode cX5_digest 139 = .ok (.aload_n 0, 1) := by decide +kernel
theorem dX5_digest_140 : decode cX5_digest 140 = .ok (.getfield 23, 3) := by decide +kernel
theorem dX5_digest_143 : decode cX5_digest 143 = .ok (.bipush 6, 2) := by decide +kernel
theorem dX5_digest_145 : decode cX5_digest 145 = .ok (.iload_n 3, 1) := by decide +kernel
theorem dX5_digest_146 : decode cX5_digest 146 = .ok (.imul, 1) := by decide +kernel
theorem dX5_digest_147 : decode cX5_digest 147 = .ok (.iload 4, 2) := by decide +kernel
theorem dX5_digest_149 : decode cX5_digest 149 = .ok (.iadd, 1) := by decide +kernel
theorem dX5_digest_150 : decode cX5_digest 150 = .ok (.iaload, 1) := by decide +kernel
theorem dX5_digest_151 : decode cX5_digest 151 = .ok (.i2l, 1) := by decide +kernel
theorem dX5_digest_152 : decode cX5_digest 152 = .ok (.ladd, 1) := by decide +kernel
theorem dX5_digest_153 : decode cX5_digest 153 = .ok (.lstore_n 1, 1) := by decide +kernel
theorem dX5_digest_154 : decode cX5_digest 154 = .ok (.iinc 4 1, 3) := by decide +kernel
theorem dX5_digest_157 : decode cX5_digest 157 = .ok (.goto (-30), 3) := by decide +kernel
theorem dX5_digest_160 : decode cX5_digest 160 = .ok (.iconst 0, 1) := by decide +kernel
theorem dX5_digest_161 : decode cX5_digest 161 = .ok (.istore 4, 2) := by decide +kernel
theorem dX5_digest_163 : decode cX5_digest 163 = .ok (.iload 4, 2) := by decide +kernel
theorem dX5_digest_165 : decode cX5_digest 165 = .ok (.iconst 3, 1) := by decide +kernel
theorem dX5_digest_166 : decode cX5_digest 166 = .ok (.if_icmp .ge 30, 3) := by decide +kernel
theorem dX5_digest_169 : decode cX5_digest 169 = .ok (.lload_n 1, 1) := by decide +kernel
theorem dX5_digest_170 : decode cX5_digest 170 = .ok (.ldc2_w 150, 3) := by decide +kernel
theorem dX5_digest_173 : decode cX5_digest 173 = .ok (.lmul, 1) := by decide +kernel
theorem dX5_digest_174 : decode cX5_digest 174 = .ok (.aload_n 0, 1) := by decide +kernel
theorem dX5_digest_175 : decode cX5_digest 175 = .ok (.iload_n 3, 1) := by decide +kernel
theorem dX5_digest_176 : decode cX5_digest 176 = .ok (.iload 4, 2) := by decide +kernel
theorem dX5_digest_178 : decode cX5_digest 178 = .ok (.aload_n 0, 1) := by decide +kernel
theorem dX5_digest_179 : decode cX5_digest 179 = .ok (.iload_n 3, 1) := by decide +kernel
theorem dX5_digest_180 : decode cX5_digest 180 = .ok (.iconst 5, 1) := by decide +kernel
theorem dX5_digest_181 : decode cX5_digest 181 = .ok (.invokevirtual 77, 3) := by decide +kernel
theorem dX5_digest_184 : decode cX5_digest 184 = .ok (.invokevirtual 80, 3) := by decide +kernel
theorem dX5_digest_187 : decode cX5_digest 187 = .ok (.i2l, 1) := by decide +kernel
theorem dX5_digest_188 : decode cX5_digest 188 = .ok (.ladd, 1) := by decide +kernel
theorem dX5_digest_189 : decode cX5_digest 189 = .ok (.lstore_n 1, 1) := by decide +kernel
theorem dX5_digest_190 : decode cX5_digest 190 = .ok (.iinc 4 1, 3) := by decide +kernel
theorem dX5_digest_193 : decode cX5_digest 193 = .ok (.goto (-30), 3) := by decide +kernel
theorem dX5_digest_196 : decode cX5_digest 196 = .ok (.iinc 3 1, 3) := by decide +kernel
theorem dX5_digest_199 : decode cX5_digest 199 = .ok (.goto (-114), 3) := by decide +kernel
theorem dX5_digest_202 : decode cX5_digest 202 = .ok (.iconst 0, 1) := by decide +kernel
theorem dX5_digest_203 : decode cX5_digest 203 = .ok (.istore_n 3, 1) := by decide +kernel
theorem dX5_digest_204 : decode cX5_digest 204 = .ok (.iload_n 3, 1) := by decide +kernel
theorem dX5_digest_205 : decode cX5_digest 205 = .ok (.iconst 4, 1) := by decide +kernel
theorem dX5_digest_206 : decode cX5_digest 206 = .ok (.aload_n 0, 1) := by decide +kernel
theorem dX5_digest_207 : decode cX5_digest 207 = .ok (.getfield 119, 3) := by decide +kernel
theorem dX5_digest_210 : decode cX5_digest 210 = .ok (.imul, 1) := by decide +kernel
theorem dX5_digest_211 : decode cX5_digest 211 = .ok (.if_icmp .ge 23, 3) := by decide +kernel
theorem dX5_digest_214 : decode cX5_digest 214 = .ok (.lload_n 1, 1) := by decide +kernel
theorem dX5_digest_215 : decode cX5_digest 215 = .ok (.ldc2_w 150, 3) := by decide +kernel
theorem dX5_digest_218 : decode cX5_digest 218 = .ok (.lmul, 1) := by decide +kernel
theorem dX5_digest_219 : decode cX5_digest 219 = .ok (.aload_n 0, 1) := by decide +kernel
theorem dX5_digest_220 : decode cX5_digest 220 = .ok (.getfield 29, 3) := by decide +kernel
theorem dX5_digest_223 : decode cX5_digest 223 = .ok (.iload_n 3, 1) := by decide +kernel
theorem dX5_digest_224 : decode cX5_digest 224 = .ok (.iaload, 1) := by decide +kernel
theorem dX5_digest_225 : decode cX5_digest 225 = .ok (.i2l, 1) := by decide +kernel
theorem dX5_digest_226 : decode cX5_digest 226 = .ok (.ladd, 1) := by decide +kernel
theorem dX5_digest_227 : decode cX5_digest 227 = .ok (.lstore_n 1, 1) := by decide +kernel
theorem dX5_digest_228 : decode cX5_digest 228 = .ok (.iinc 3 1, 3) := by decide +kernel
theorem dX5_digest_231 : decode cX5_digest 231 = .ok (.goto (-27), 3) := by decide +kernel
theorem dX5_digest_234 : decode cX5_digest 234 = .ok (.lload_n 1, 1) := by decide +kernel
theorem dX5_digest_235 : decode cX5_digest 235 = .ok (.lreturn, 1) := by decide +kernel
theorem dJ6_bitCount_0f7a4_0 : decode cJ6_bitCount_0f7a4 0 = .ok (.iload_n 0, 1) := by decide +kernel
theorem dJ6_bitCount_0f7a4_1 : decode cJ6_bitCount_0f7a4 1 = .ok (.iload_n 0, 1) := by decide +kernel
theorem dJ6_bitCount_0f7a4_2 : decode cJ6_bitCount_0f7a4 2 = .ok (.iconst 1, 1) := by decide +kernel
theorem dJ6_bitCount_0f7a4_3 : decode cJ6_bitCount_0f7a4 3 = .ok (.iushr, 1) := by decide +kernel
theorem dJ6_bitCount_0f7a4_4 : decode cJ6_bitCount_0f7a4 4 = .ok (.ldc_w 265, 3) := by decide +kernel
theorem dJ6_bitCount_0f7a4_7 : decode cJ6_bitCount_0f7a4 7 = .ok (.iand, 1) := by decide +kernel
theorem dJ6_bitCount_0f7a4_8 : decode cJ6_bitCount_0f7a4 8 = .ok (.isub, 1) := by decide +kernel
theorem dJ6_bitCount_0f7a4_9 : decode cJ6_bitCount_0f7a4 9 = .ok (.istore_n 0, 1) := by decide +kernel
theorem dJ6_bitCount_0f7a4_10 : decode cJ6_bitCount_0f7a4 10 = .ok (.iload_n 0, 1) := by decide +kernel
theorem dJ6_bitCount_0f7a4_11 : decode cJ6_bitCount_0f7a4 11 = .ok (.ldc_w 266, 3) := by decide +kernel
theorem dJ6_bitCount_0f7a4_14 : decode cJ6_bitCount_0f7a4 14 = .ok (.iand, 1) := by decide +kernel
theorem dJ6_bitCount_0f7a4_15 : decode cJ6_bitCount_0f7a4 15 = .ok (.iload_n 0, 1) := by decide +kernel
theorem dJ6_bitCount_0f7a4_16 : decode cJ6_bitCount_0f7a4 16 = .ok (.iconst 2, 1) := by decide +kernel
theorem dJ6_bitCount_0f7a4_17 : decode cJ6_bitCount_0f7a4 17 = .ok (.iushr, 1) := by decide +kernel
theorem dJ6_bitCount_0f7a4_18 : decode cJ6_bitCount_0f7a4 18 = .ok (.ldc_w 266, 3) := by decide +kernel
theorem dJ6_bitCount_0f7a4_21 : decode cJ6_bitCount_0f7a4 21 = .ok (.iand, 1) := by decide +kernel
theorem dJ6_bitCount_0f7a4_22 : decode cJ6_bitCount_0f7a4 22 = .ok (.iadd, 1) := by decide +kernel
theorem dJ6_bitCount_0f7a4_23 : decode cJ6_bitCount_0f7a4 23 = .ok (.istore_n 0, 1) := by decide +kernel
theorem dJ6_bitCount_0f7a4_24 : decode cJ6_bitCount_0f7a4 24 = .ok (.iload_n 0, 1) := by decide +kernel
theorem dJ6_bitCount_0f7a4_25 : decode cJ6_bitCount_0f7a4 25 = .ok (.iload_n 0, 1) := by decide +kernel
theorem dJ6_bitCount_0f7a4_26 : decode cJ6_bitCount_0f7a4 26 = .ok (.iconst 4, 1) := by decide +kernel
theorem dJ6_bitCount_0f7a4_27 : decode cJ6_bitCount_0f7a4 27 = .ok (.iushr, 1) := by decide +kernel
theorem dJ6_bitCount_0f7a4_28 : decode cJ6_bitCount_0f7a4 28 = .ok (.iadd, 1) := by decide +kernel
theorem dJ6_bitCount_0f7a4_29 : decode cJ6_bitCount_0f7a4 29 = .ok (.ldc_w 267, 3) := by decide +kernel
theorem dJ6_bitCount_0f7a4_32 : decode cJ6_bitCount_0f7a4 32 = .ok (.iand, 1) := by decide +kernel
theorem dJ6_bitCount_0f7a4_33 : decode cJ6_bitCount_0f7a4 33 = .ok (.istore_n 0, 1) := by decide +kernel
theorem dJ6_bitCount_0f7a4_34 : decode cJ6_bitCount_0f7a4 34 = .ok (.iload_n 0, 1) := by decide +kernel
theorem dJ6_bitCount_0f7a4_35 : decode cJ6_bitCount_0f7a4 35 = .ok (.iload_n 0, 1) := by decide +kernel
theorem dJ6_bitCount_0f7a4_36 : decode cJ6_bitCount_0f7a4 36 = .ok (.bipush 8, 2) := by decide +kernel
theorem dJ6_bitCount_0f7a4_38 : decode cJ6_bitCount_0f7a4 38 = .ok (.iushr, 1) := by decide +kernel
theorem dJ6_bitCount_0f7a4_39 : decode cJ6_bitCount_0f7a4 39 = .ok (.iadd, 1) := by decide +kernel
theorem dJ6_bitCount_0f7a4_40 : decode cJ6_bitCount_0f7a4 40 = .ok (.istore_n 0, 1) := by decide +kernel
theorem dJ6_bitCount_0f7a4_41 : decode cJ6_bitCount_0f7a4 41 = .ok (.iload_n 0, 1) := by decide +kernel
theorem dJ6_bitCount_0f7a4_42 : decode cJ6_bitCount_0f7a4 42 = .ok (.iload_n 0, 1) := by decide +kernel
theorem dJ6_bitCount_0f7a4_43 : decode cJ6_bitCount_0f7a4 43 = .ok (.bipush 16, 2) := by decide +kernel
theorem dJ6_bitCount_0f7a4_45 : decode cJ6_bitCount_0f7a4 45 = .ok (.iushr, 1) := by decide +kernel
theorem dJ6_bitCount_0f7a4_46 : decode cJ6_bitCount_0f7a4 46 = .ok (.iadd, 1) := by decide +kernel
theorem dJ6_bitCount_0f7a4_47 : decode cJ6_bitCount_0f7a4 47 = .ok (.istore_n 0, 1) := by decide +kernel
theorem dJ6_bitCount_0f7a4_48 : decode cJ6_bitCount_0f7a4 48 = .ok (.iload_n 0, 1) := by decide +kernel
theorem dJ6_bitCount_0f7a4_49 : decode cJ6_bitCount_0f7a4 49 = .ok (.bipush 63, 2) := by decide +kernel
theorem dJ6_bitCount_0f7a4_51 : decode cJ6_bitCount_0f7a4 51 = .ok (.iand, 1) := by decide +kernel
theorem dJ6_bitCount_0f7a4_52 : decode cJ6_bitCount_0f7a4 52 = .ok (.ireturn, 1) := by decide +kernel
theorem dJ13_bitCount_95d88_0 : decode cJ13_bitCount_95d88 0 = .ok (.lload_n 0, 1) := by decide +kernel
theorem dJ13_bitCount_95d88_1 : decode cJ13_bitCount_95d88 1 = .ok (.lload_n 0, 1) := by decide +kernel
theorem dJ13_bitCount_95d88_2 : decode cJ13_bitCount_95d88 2 = .ok (.iconst 1, 1) := by decide +kernel
theorem dJ13_bitCount_95d88_3 : decode cJ13_bitCount_95d88 3 = .ok (.lushr, 1) := by decide +kernel
theorem dJ13_bitCount_95d88_4 : decode cJ13_bitCount_95d88 4 = .ok (.ldc2_w 314, 3) := by decide +kernel
theorem dJ13_bitCount_95d88_7 : decode cJ13_bitCount_95d88 7 = .ok (.land, 1) := by decide +kernel
theorem dJ13_bitCount_95d88_8 : decode cJ13_bitCount_95d88 8 = .ok (.lsub, 1) := by decide +kernel
theorem dJ13_bitCount_95d88_9 : decode cJ13_bitCount_95d88 9 = .ok (.lstore_n 0, 1) := by decide +kernel
theorem dJ13_bitCount_95d88_10 : decode cJ13_bitCount_95d88 10 = .ok (.lload_n 0, 1) := by decide +kernel
theorem dJ13_bitCount_95d88_11 : decode cJ13_bitCount_95d88 11 = .ok (.ldc2_w 316, 3) := by decide +kernel
theorem dJ13_bitCount_95d88_14 : decode cJ13_bitCount_95d88 14 = .ok (.land, 1) := by decide +kernel
theorem dJ13_bitCount_95d88_15 : decode cJ13_bitCount_95d88 15 = .ok (.lload_n 0, 1) := by decide +kernel
theorem dJ13_bitCount_95d88_16 : decode cJ13_bitCount_95d88 16 = .ok (.iconst 2, 1) := by decide +kernel
theorem dJ13_bitCount_95d88_17 : decode cJ13_bitCount_95d88 17 = .ok (.lushr, 1) := by decide +kernel
theorem dJ13_bitCount_95d88_18 : decode cJ13_bitCount_95d88 18 = .ok (.ldc2_w 316, 3) := by decide +kernel
theorem dJ13_bitCount_95d88_21 : decode cJ13_bitCount_95d88 21 = .ok (.land, 1) := by decide +kernel
theorem dJ13_bitCount_95d88_22 : decode cJ13_bitCount_95d88 22 = .ok (.ladd, 1) := by decide +kernel
theorem dJ13_bitCount_95d88_23 : decode cJ13_bitCount_95d88 23 = .ok (.lstore_n 0, 1) := by decide +kernel
theorem dJ13_bitCount_95d88_24 : decode cJ13_bitCount_95d88 24 = .ok (.lload_n 0, 1) := by decide +kernel
theorem dJ13_bitCount_95d88_25 : decode cJ13_bitCount_95d88 25 = .ok (.lload_n 0, 1) := by decide +kernel
theorem dJ13_bitCount_95d88_26 : decode cJ13_bitCount_95d88 26 = .ok (.iconst 4, 1) := by decide +kernel
theorem dJ13_bitCount_95d88_27 : decode cJ13_bitCount_95d88 27 = .ok (.lushr, 1) := by decide +kernel
theorem dJ13_bitCount_95d88_28 : decode cJ13_bitCount_95d88 28 = .ok (.ladd, 1) := by decide +kernel
theorem dJ13_bitCount_95d88_29 : decode cJ13_bitCount_95d88 29 = .ok (.ldc2_w 318, 3) := by decide +kernel
theorem dJ13_bitCount_95d88_32 : decode cJ13_bitCount_95d88 32 = .ok (.land, 1) := by decide +kernel
theorem dJ13_bitCount_95d88_33 : decode cJ13_bitCount_95d88 33 = .ok (.lstore_n 0, 1) := by decide +kernel
theorem dJ13_bitCount_95d88_34 : decode cJ13_bitCount_95d88 34 = .ok (.lload_n 0, 1) := by decide +kernel
theorem dJ13_bitCount_95d88_35 : decode cJ13_bitCount_95d88 35 = .ok (.lload_n 0, 1) := by decide +kernel
theorem dJ13_bitCount_95d88_36 : decode cJ13_bitCount_95d88 36 = .ok (.bipush 8, 2) := by decide +kernel
theorem dJ13_bitCount_95d88_38 : decode cJ13_bitCount_95d88 38 = .ok (.lushr, 1) := by decide +kernel
theorem dJ13_bitCount_95d88_39 : decode cJ13_bitCount_95d88 39 = .ok (.ladd, 1) := by decide +kernel
theorem dJ13_bitCount_95d88_40 : decode cJ13_bitCount_95d88 40 = .ok (.lstore_n 0, 1) := by decide +kernel
theorem dJ13_bitCount_95d88_41 : decode cJ13_bitCount_95d88 41 = .ok (.lload_n 0, 1) := by decide +kernel
theorem dJ13_bitCount_95d88_42 : decode cJ13_bitCount_95d88 42 = .ok (.lload_n 0, 1) := by decide +kernel
theorem dJ13_bitCount_95d88_43 : decode cJ13_bitCount_95d88 43 = .ok (.bipush 16, 2) := by decide +kernel
theorem dJ13_bitCount_95d88_45 : decode cJ13_bitCount_95d88 45 = .ok (.lushr, 1) := by decide +kernel
theorem dJ13_bitCount_95d88_46 : decode cJ13_bitCount_95d88 46 = .ok (.ladd, 1) := by decide +kernel
theorem dJ13_bitCount_95d88_47 : decode cJ13_bitCount_95d88 47 = .ok (.lstore_n 0, 1) := by decide +kernel
theorem dJ13_bitCount_95d88_48 : decode cJ13_bitCount_95d88 48 = .ok (.lload_n 0, 1) := by decide +kernel
theorem dJ13_bitCount_95d88_49 : decode cJ13_bitCount_95d88 49 = .ok (.lload_n 0, 1) := by decide +kernel
theorem dJ13_bitCount_95d88_50 : decode cJ13_bitCount_95d88 50 = .ok (.bipush 32, 2) := by decide +kernel
theorem dJ13_bitCount_95d88_52 : decode cJ13_bitCount_95d88 52 = .ok (.lushr, 1) := by decide +kernel
theorem dJ13_bitCount_95d88_53 : decode cJ13_bitCount_95d88 53 = .ok (.ladd, 1) := by decide +kernel
theorem dJ13_bitCount_95d88_54 : decode cJ13_bitCount_95d88 54 = .ok (.lstore_n 0, 1) := by decide +kernel
theorem dJ13_bitCount_95d88_55 : decode cJ13_bitCount_95d88 55 = .ok (.lload_n 0, 1) := by decide +kernel
theorem dJ13_bitCount_95d88_56 : decode cJ13_bitCount_95d88 56 = .ok (.l2i, 1) := by decide +kernel
theorem dJ13_bitCount_95d88_57 : decode cJ13_bitCount_95d88 57 = .ok (.bipush 127, 2) := by decide +kernel
theorem dJ13_bitCount_95d88_59 : decode cJ13_bitCount_95d88 59 = .ok (.iand, 1) := by decide +kernel
theorem dJ13_bitCount_95d88_60 : decode cJ13_bitCount_95d88 60 = .ok (.ireturn, 1) := by decide +kernel
theorem dJ9_floorDiv_7cf53_0 : decode cJ9_floorDiv_7cf53 0 = .ok (.iload_n 0, 1) := by decide +kernel
theorem dJ9_floorDiv_7cf53_1 : decode cJ9_floorDiv_7cf53 1 = .ok (.iload_n 1, 1) := by decide +kernel
theorem dJ9_floorDiv_7cf53_2 : decode cJ9_floorDiv_7cf53 2 = .ok (.idiv, 1) := by decide +kernel
theorem dJ9_floorDiv_7cf53_3 : decode cJ9_floorDiv_7cf53 3 = .ok (.istore_n 2, 1) := by decide +kernel
theorem dJ9_floorDiv_7cf53_4 : decode cJ9_floorDiv_7cf53 4 = .ok (.iload_n 0, 1) := by decide +kernel
theorem dJ9_floorDiv_7cf53_5 : decode cJ9_floorDiv_7cf53 5 = .ok (.iload_n 1, 1) := by decide +kernel
theorem dJ9_floorDiv_7cf53_6 : decode cJ9_floorDiv_7cf53 6 = .ok (.ixor, 1) := by decide +kernel
theorem dJ9_floorDiv_7cf53_7 : decode cJ9_floorDiv_7cf53 7 = .ok (.ifCond .ge 14, 3) := by decide +kernel
theorem dJ9_floorDiv_7cf53_10 : decode cJ9_floorDiv_7cf53 10 = .ok (.iload_n 2, 1) := by decide +kernel
theorem dJ9_floorDiv_7cf53_11 : decode cJ9_floorDiv_7cf53 11 = .ok (.iload_n 1, 1) := by decide +kernel
theorem dJ9_floorDiv_7cf53_12 : decode cJ9_floorDiv_7cf53 12 = .ok (.imul, 1) := by decide +kernel
theorem dJ9_floorDiv_7cf53_13 : decode cJ9_floorDiv_7cf53 13 = .ok (.iload_n 0, 1) := by decide +kernel
theorem dJ9_floorDiv_7cf53_14 : decode cJ9_floorDiv_7cf53 14 = .ok (.if_icmp .eq 7, 3) := by decide +kernel
theorem dJ9_floorDiv_7cf53_17 : decode cJ9_floorDiv_7cf53 17 = .ok (.iload_n 2, 1) := by decide +kernel
theorem dJ9_floorDiv_7cf53_18 : decode cJ9_floorDiv_7cf53 18 = .ok (.iconst 1, 1) := by decide +kernel
theorem dJ9_floorDiv_7cf53_19 : decode cJ9_floorDiv_7cf53 19 = .ok (.isub, 1) := by decide +kernel
theorem dJ9_floorDiv_7cf53_20 : decode cJ9_floorDiv_7cf53 20 = .ok (.ireturn, 1) := by decide +kernel
theorem dJ9_floorDiv_7cf53_21 : decode cJ9_floorDiv_7cf53 21 = .ok (.iload_n 2, 1) := by decide +kernel
theorem dJ9_floorDiv_7cf53_22 : decode cJ9_floorDiv_7cf53 22 = .ok (.ireturn, 1) := by decide +kernel
theorem dJ9_max_7cf53_0 : decode cJ9_max_7cf53 0 = .ok (.iload_n 0, 1) := by decide +kernel
theorem dJ9_max_7cf53_1 : decode cJ9_max_7cf53 1 = .ok (.iload_n 1, 1) := by decide +kernel
theorem dJ9_max_7cf53_2 : decode cJ9_max_7cf53 2 = .ok (.if_icmp .lt 7, 3) := by decide +kernel
theorem dJ9_max_7cf53_5 : decode cJ9_max_7cf53 5 = .ok (.iload_n 0, 1) := by decide +kernel
theorem dJ9_max_7cf53_6 : decode cJ9_max_7cf53 6 = .ok (.goto 4, 3) := by decide +kernel
theorem dJ9_max_7cf53_9 : decode cJ9_max_7cf53 9 = .ok (.iload_n 1, 1) := by decide +kernel
theorem dJ9_max_7cf53_10 : decode cJ9_max_7cf53 10 = .ok (.ireturn, 1) := by decide +kernel
theorem dJ9_min_7cf53_0 : decode cJ9_min_7cf53 0 = .ok (.iload_n 0, 1) := by decide +kernel
theorem dJ9_min_7cf53_1 : decode cJ9_min_7cf53 1 = .ok (.iload_n 1, 1) := by decide +kernel
theorem dJ9_min_7cf53_2 : decode cJ9_min_7cf53 2 = .ok (.if_icmp .gt 7, 3) := by decide +kernel
theorem dJ9_min_7cf53_5 : decode cJ9_min_7cf53 5 = .ok (.iload_n 0, 1) := by decide +kernel
theorem dJ9_min_7cf53_6 : decode cJ9_min_7cf53 6 = .ok (.goto 4, 3) := by decide +kernel
theorem dJ9_min_7cf53_9 : decode cJ9_min_7cf53 9 = .ok (.iload_n 1, 1) := by decide +kernel
theorem dJ9_min_7cf53_10 : decode cJ9_min_7cf53 10 = .ok (.ireturn, 1) := by decide +kernel
theorem dJ9_min_f86c9_0 : decode cJ9_min_f86c9 0 = .ok (.lload_n 0, 1) := by decide +kernel
theorem dJ9_min_f86c9_1 : decode cJ9_min_f86c9 1 = .ok (.lload_n 2, 1) := by decide +kernel
theorem dJ9_min_f86c9_2 : decode cJ9_min_f86c9 2 = .ok (.lcmp, 1) := by decide +kernel
theorem dJ9_min_f86c9_3 : decode cJ9_min_f86c9 3 = .ok (.ifCond .gt 7, 3) := by decide +kernel
theorem dJ9_min_f86c9_6 : decode cJ9_min_f86c9 6 = .ok (.lload_n 0, 1) := by decide +kernel
theorem dJ9_min_f86c9_7 : decode cJ9_min_f86c9 7 = .ok (.goto 4, 3) := by decide +kernel
theorem dJ9_min_f86c9_10 : decode cJ9_min_f86c9 10 = .ok (.lload_n 2, 1) := by decide +kernel
theorem dJ9_min_f86c9_11 : decode cJ9_min_f86c9 11 = .ok (.lreturn, 1) := by decide +kernel
end
section
theorem dL_addSpring_0 : decode cL_addSpring 0 = .ok (.aload_n 2, 1) := by decide +kernel
theorem dL_addSpring_1 : decode cL_addSpring 1 = .ok (.iconst 0, 1) := by decide +kernel
theorem dL_addSpring_2 : decode cL_addSpring 2 = .ok (.aload_n 0, 1) := by decide +kernel
theorem dL_addSpring_3 : decode cL_addSpring 3 = .ok (.iload_n 1, 1) := by decide +kernel
theorem dL_addSpring_4 : decode cL_addSpring 4 = .ok (.invokevirtual 7, 3) := by decide +kernel
theorem dL_addSpring_7 : decode cL_addSpring 7 = .ok (.i2l, 1) := by decide +kernel
theorem dL_addSpring_8 : decode cL_addSpring 8 = .ok (.lastore, 1) := by decide +kernel
theorem dL_addSpring_9 : decode cL_addSpring 9 = .ok (.goto 9, 3) := by decide +kernel
theorem dL_addSpring_12 : decode cL_addSpring 12 = .ok (.astore_n 3, 1) := by decide +kernel
theorem dL_addSpring_13 : decode cL_addSpring 13 = .ok (.iconst 1, 1) := by decide +kernel
theorem dL_addSpring_14 : decode cL_addSpring 14 = .ok (.ireturn, 1) := by decide +kernel
theorem dL_addSpring_15 : decode cL_addSpring 15 = .ok (.astore_n 3, 1) := by decide +kernel
theorem dL_addSpring_16 : decode cL_addSpring 16 = .ok (.iconst 2, 1) := by decide +kernel
theorem dL_addSpring_17 : decode cL_addSpring 17 = .ok (.ireturn, 1) := by decide +kernel
theorem dL_addSpring_18 : decode cL_addSpring 18 = .ok (.iconst 0, 1) := by decide +kernel
theorem dL_addSpring_19 : decode cL_addSpring 19 = .ok (.ireturn, 1) := by decide +kernel
theorem dL_wind_0 : decode cL_wind 0 = .ok (.aload_n 3, 1) := by decide +kernel
theorem dL_wind_1 : decode cL_wind 1 = .ok (.iconst 0, 1) := by decide +kernel
theorem dL_wind_2 : decode cL_wind 2 = .ok (.aload_n 0, 1) := by decide +kernel
theorem dL_wind_3 : decode cL_wind 3 = .ok (.iload_n 1, 1) := by decide +kernel
theorem dL_wind_4 : decode cL_wind 4 = .ok (.iload_n 2, 1) := by decide +kernel
theorem dL_wind_5 : decode cL_wind 5 = .ok (.invokevirtual 17, 3) := by decide +kernel
theorem dL_wind_8 : decode cL_wind 8 = .ok (.i2l, 1) := by decide +kernel
theorem dL_wind_9 : decode cL_wind 9 = .ok (.lastore, 1) := by decide +kernel
theorem dL_wind_10 : decode cL_wind 10 = .ok (.goto 11, 3) := by decide +kernel
theorem dL_wind_13 : decode cL_wind 13 = .ok (.astore 4, 2) := by decide +kernel
theorem dL_wind_15 : decode cL_wind 15 = .ok (.iconst 1, 1) := by decide +kernel
theorem dL_wind_16 : decode cL_wind 16 = .ok (.ireturn, 1) := by decide +kernel
theorem dL_wind_17 : decode cL_wind 17 = .ok (.astore 4, 2) := by decide +kernel
theorem dL_wind_19 : decode cL_wind 19 = .ok (.iconst 2, 1) := by decide +kernel
theorem dL_wind_20 : decode cL_wind 20 = .ok (.ireturn, 1) := by decide +kernel
theorem dL_wind_21 : decode cL_wind 21 = .ok (.iconst 0, 1) := by decide +kernel
theorem dL_wind_22 : decode cL_wind 22 = .ok (.ireturn, 1) := by decide +kernel
theorem dL_brake_0 : decode cL_brake 0 = .ok (.aload_n 3, 1) := by decide +kernel
theorem dL_brake_1 : decode cL_brake 1 = .ok (.iconst 0, 1) := by decide +kernel
theorem dL_brake_2 : decode cL_brake 2 = .ok (.aload_n 0, 1) := by decide +kernel
theorem dL_brake_3 : decode cL_brake 3 = .ok (.iload_n 1, 1) := by decide +kernel
theorem dL_brake_4 : decode cL_brake 4 = .ok (.iload_n 2, 1) := by decide +kernel
theorem dL_brake_5 : decode cL_brake 5 = .ok (.invokevirtual 23, 3) := by decide +kernel
theorem dL_brake_8 : decode cL_brake 8 = .ok (.ifCond .eq 7, 3) := by decide +kernel
theorem dL_brake_11 : decode cL_brake 11 = .ok (.lconst 1, 1) := by decide +kernel
theorem dL_brake_12 : decode cL_brake 12 = .ok (.goto 4, 3) := by decide +kernel
theorem dL_brake_15 : decode cL_brake 15 = .ok (.lconst 0, 1) := by decide +kernel
theorem dL_brake_16 : decode cL_brake 16 = .ok (.lastore, 1) := by decide +kernel
theorem dL_brake_17 : decode cL_brake 17 = .ok (.goto 7, 3) := by decide +kernel
theorem dL_brake_20 : decode cL_brake 20 = .ok (.astore 4, 2) := by decide +kernel
theorem dL_brake_22 : decode cL_brake 22 = .ok (.iconst 1, 1) := by decide +kernel
theorem dL_brake_23 : decode cL_brake 23 = .ok (.ireturn, 1) := by decide +kernel
theorem dL_brake_24 : decode cL_brake 24 = .ok (.iconst 0, 1) := by decide +kernel
theorem dL_brake_25 : decode cL_brake 25 = .ok (.ireturn, 1) := by decide +kernel
theorem dL_couple_0 : decode cL_couple 0 = .ok (.aload 4, 2) := by decide +kernel
theorem dL_couple_2 : decode cL_couple 2 = .ok (.iconst 0, 1) := by decide +kernel
theorem dL_couple_3 : decode cL_couple 3 = .ok (.aload_n 0, 1) := by decide +kernel
theorem dL_couple_4 : decode cL_couple 4 = .ok (.iload_n 1, 1) := by decide +kernel
theorem dL_couple_5 : decode cL_couple 5 = .ok (.iload_n 2, 1) := by decide +kernel
theorem dL_couple_6 : decode cL_couple 6 = .ok (.iload_n 3, 1) := by decide +kernel
theorem dL_couple_7 : decode cL_couple 7 = .ok (.invokevirtual 27, 3) := by decide +kernel
theorem dL_couple_10 : decode cL_couple 10 = .ok (.i2l, 1) := by decide +kernel
theorem dL_couple_11 : decode cL_couple 11 = .ok (.lastore, 1) := by decide +kernel
theorem dL_couple_12 : decode cL_couple 12 = .ok (.goto 11, 3) := by decide +kernel
theorem dL_couple_15 : decode cL_couple 15 = .ok (.astore 5, 2) := by decide +kernel
theorem dL_couple_17 : decode cL_couple 17 = .ok (.iconst 1, 1) := by decide +kernel
theorem dL_couple_18 : decode cL_couple 18 = .ok (.ireturn, 1) := by decide +kernel
theorem dL_couple_19 : decode cL_couple 19 = .ok (.astore 5, 2) := by decide +kernel
theorem dL_couple_21 : decode cL_couple 21 = .ok (.iconst 2, 1) := by decide +kernel
theorem dL_couple_22 : decode cL_couple 22 = .ok (.ireturn, 1) := by decide +kernel
theorem dL_couple_23 : decode cL_couple 23 = .ok (.iconst 0, 1) := by decide +kernel
theorem dL_couple_24 : decode cL_couple 24 = .ok (.ireturn, 1) := by decide +kernel
theorem dL_spring_0 : decode cL_spring 0 = .ok (.aload_n 3, 1) := by decide +kernel
theorem dL_spring_1 : decode cL_spring 1 = .ok (.iconst 0, 1) := by decide +kernel
theorem dL_spring_2 : decode cL_spring 2 = .ok (.aload_n 0, 1) := by decide +kernel
theorem dL_spring_3 : decode cL_spring 3 = .ok (.iload_n 1, 1) := by decide +kernel
theorem dL_spring_4 : decode cL_spring 4 = .ok (.iload_n 2, 1) := by decide +kernel
theorem dL_spring_5 : decode cL_spring 5 = .ok (.invokevirtual 31, 3) := by decide +kernel
theorem dL_spring_8 : decode cL_spring 8 = .ok (.i2l, 1) := by decide +kernel
theorem dL_spring_9 : decode cL_spring 9 = .ok (.lastore, 1) := by decide +kernel
theorem dL_spring_10 : decode cL_spring 10 = .ok (.goto 7, 3) := by decide +kernel
theorem dL_spring_13 : decode cL_spring 13 = .ok (.astore 4, 2) := by decide +kernel
theorem dL_spring_15 : decode cL_spring 15 = .ok (.iconst 1, 1) := by decide +kernel
theorem dL_spring_16 : decode cL_spring 16 = .ok (.ireturn, 1) := by decide +kernel
theorem dL_spring_17 : decode cL_spring 17 = .ok (.iconst 0, 1) := by decide +kernel
theorem dL_spring_18 : decode cL_spring 18 = .ok (.ireturn, 1) := by decide +kernel
theorem dL_addBird_0 : decode cL_addBird 0 = .ok (.aload 6, 2) := by decide +kernel
theorem dL_addBird_2 : decode cL_addBird 2 = .ok (.iconst 0, 1) := by decide +kernel
theorem dL_addBird_3 : decode cL_addBird 3 = .ok (.aload_n 0, 1) := by decide +kernel
theorem dL_addBird_4 : decode cL_addBird 4 = .ok (.iload_n 1, 1) := by decide +kernel
theorem dL_addBird_5 : decode cL_addBird 5 = .ok (.iload_n 2, 1) := by decide +kernel
theorem dL_addBird_6 : decode cL_addBird 6 = .ok (.iload_n 3, 1) := by decide +kernel
theorem dL_addBird_7 : decode cL_addBird 7 = .ok (.iload 4, 2) := by decide +kernel
theorem dL_addBird_9 : decode cL_addBird 9 = .ok (.iload 5, 2) := by decide +kernel
theorem dL_addBird_11 : decode cL_addBird 11 = .ok (.invokevirtual 34, 3) := by decide +kernel
theorem dL_addBird_14 : decode cL_addBird 14 = .ok (.i2l, 1) := by decide +kernel
theorem dL_addBird_15 : decode cL_addBird 15 = .ok (.lastore, 1) := by decide +kernel
theorem dL_addBird_16 : decode cL_addBird 16 = .ok (.goto 15, 3) := by decide +kernel
theorem dL_addBird_19 : decode cL_addBird 19 = .ok (.astore 7, 2) := by decide +kernel
theorem dL_addBird_21 : decode cL_addBird 21 = .ok (.iconst 1, 1) := by decide +kernel
theorem dL_addBird_22 : decode cL_addBird 22 = .ok (.ireturn, 1) := by decide +kernel
theorem dL_addBird_23 : decode cL_addBird 23 = .ok (.astore 7, 2) := by decide +kernel
theorem dL_addBird_25 : decode cL_addBird 25 = .ok (.iconst 2, 1) := by decide +kernel
theorem dL_addBird_26 : decode cL_addBird 26 = .ok (.ireturn, 1) := by decide +kernel
theorem dL_addBird_27 : decode cL_addBird 27 = .ok (.astore 7, 2) := by decide +kernel
theorem dL_addBird_29 : decode cL_addBird 29 = .ok (.iconst 3, 1) := by decide +kernel
theorem dL_addBird_30 : decode cL_addBird 30 = .ok (.ireturn, 1) := by decide +kernel
theorem dL_addBird_31 : decode cL_addBird 31 = .ok (.iconst 0, 1) := by decide +kernel
theorem dL_addBird_32 : decode cL_addBird 32 = .ok (.ireturn, 1) := by decide +kernel
theorem dL_engage_0 : decode cL_engage 0 = .ok (.aload_n 3, 1) := by decide +kernel
theorem dL_engage_1 : decode cL_engage 1 = .ok (.iconst 0, 1) := by decide +kernel
theorem dL_engage_2 : decode cL_engage 2 = .ok (.aload_n 0, 1) := by decide +kernel
theorem dL_engage_3 : decode cL_engage 3 = .ok (.iload_n 1, 1) := by decide +kernel
theorem dL_engage_4 : decode cL_engage 4 = .ok (.iload_n 2, 1) := by decide +kernel
theorem dL_engage_5 : decode cL_engage 5 = .ok (.invokevirtual 38, 3) := by decide +kernel
theorem dL_engage_8 : decode cL_engage 8 = .ok (.ifCond .eq 7, 3) := by decide +kernel
theorem dL_engage_11 : decode cL_engage 11 = .ok (.lconst 1, 1) := by decide +kernel
theorem dL_engage_12 : decode cL_engage 12 = .ok (.goto 4, 3) := by decide +kernel
theorem dL_engage_15 : decode cL_engage 15 = .ok (.lconst 0, 1) := by decide +kernel
theorem dL_engage_16 : decode cL_engage 16 = .ok (.lastore, 1) := by decide +kernel
theorem dL_engage_17 : decode cL_engage 17 = .ok (.goto 7, 3) := by decide +kernel
theorem dL_engage_20 : decode cL_engage 20 = .ok (.astore 4, 2) := by decide +kernel
theorem dL_engage_22 : decode cL_engage 22 = .ok (.iconst 1, 1) := by decide +kernel
theorem dL_engage_23 : decode cL_engage 23 = .ok (.ireturn, 1) := by decide +kernel
theorem dL_engage_24 : decode cL_engage 24 = .ok (.iconst 0, 1) := by decide +kernel
theorem dL_engage_25 : decode cL_engage 25 = .ok (.ireturn, 1) := by decide +kernel
theorem dL_pin_0 : decode cL_pin 0 = .ok (.aload 4, 2) := by decide +kernel
theorem dL_pin_2 : decode cL_pin 2 = .ok (.iconst 0, 1) := by decide +kernel
theorem dL_pin_3 : decode cL_pin 3 = .ok (.aload_n 0, 1) := by decide +kernel
theorem dL_pin_4 : decode cL_pin 4 = .ok (.iload_n 1, 1) := by decide +kernel
theorem dL_pin_5 : decode cL_pin 5 = .ok (.iload_n 2, 1) := by decide +kernel
theorem dL_pin_6 : decode cL_pin 6 = .ok (.iload_n 3, 1) := by decide +kernel
theorem dL_pin_7 : decode cL_pin 7 = .ok (.invokevirtual 41, 3) := by decide +kernel
theorem dL_pin_10 : decode cL_pin 10 = .ok (.i2l, 1) := by decide +kernel
theorem dL_pin_11 : decode cL_pin 11 = .ok (.lastore, 1) := by decide +kernel
theorem dL_pin_12 : decode cL_pin 12 = .ok (.goto 15, 3) := by decide +kernel
theorem dL_pin_15 : decode cL_pin 15 = .ok (.astore 5, 2) := by decide +kernel
theorem dL_pin_17 : decode cL_pin 17 = .ok (.iconst 1, 1) := by decide +kernel
theorem dL_pin_18 : decode cL_pin 18 = .ok (.ireturn, 1) := by decide +kernel
theorem dL_pin_19 : decode cL_pin 19 = .ok (.astore 5, 2) := by decide +kernel
theorem dL_pin_21 : decode cL_pin 21 = .ok (.iconst 2, 1) := by decide +kernel
theorem dL_pin_22 : decode cL_pin 22 = .ok (.ireturn, 1) := by decide +kernel
theorem dL_pin_23 : decode cL_pin 23 = .ok (.astore 5, 2) := by decide +kernel
theorem dL_pin_25 : decode cL_pin 25 = .ok (.iconst 3, 1) := by decide +kernel
theorem dL_pin_26 : decode cL_pin 26 = .ok (.ireturn, 1) := by decide +kernel
theorem dL_pin_27 : decode cL_pin 27 = .ok (.iconst 0, 1) := by decide +kernel
theorem dL_pin_28 : decode cL_pin 28 = .ok (.ireturn, 1) := by decide +kernel
theorem dL_tune_0 : decode cL_tune 0 = .ok (.aload 4, 2) := by decide +kernel
theorem dL_tune_2 : decode cL_tune 2 = .ok (.iconst 0, 1) := by decide +kernel
theorem dL_tune_3 : decode cL_tune 3 = .ok (.aload_n 0, 1) := by decide +kernel
theorem dL_tune_4 : decode cL_tune 4 = .ok (.iload_n 1, 1) := by decide +kernel
theorem dL_tune_5 : decode cL_tune 5 = .ok (.iload_n 2, 1) := by decide +kernel
theorem dL_tune_6 : decode cL_tune 6 = .ok (.iload_n 3, 1) := by decide +kernel
theorem dL_tune_7 : decode cL_tune 7 = .ok (.invokevirtual 45, 3) := by decide +kernel
theorem dL_tune_10 : decode cL_tune 10 = .ok (.i2l, 1) := by decide +kernel
theorem dL_tune_11 : decode cL_tune 11 = .ok (.lastore, 1) := by decide +kernel
theorem dL_tune_12 : decode cL_tune 12 = .ok (.goto 11, 3) := by decide +kernel
theorem dL_tune_15 : decode cL_tune 15 = .ok (.astore 5, 2) := by decide +kernel
theorem dL_tune_17 : decode cL_tune 17 = .ok (.iconst 1, 1) := by decide +kernel
theorem dL_tune_18 : decode cL_tune 18 = .ok (.ireturn, 1) := by decide +kernel
theorem dL_tune_19 : decode cL_tune 19 = .ok (.astore 5, 2) := by decide +kernel
theorem dL_tune_21 : decode cL_tune 21 = .ok (.iconst 2, 1) := by decide +kernel
theorem dL_tune_22 : decode cL_tune 22 = .ok (.ireturn, 1) := by decide +kernel
theorem dL_tune_23 : decode cL_tune 23 = .ok (.iconst 0, 1) := by decide +kernel
theorem dL_tune_24 : decode cL_tune 24 = .ok (.ireturn, 1) := by decide +kernel
theorem dL_point_0 : decode cL_point 0 = .ok (.aload 5, 2) := by decide +kernel
theorem dL_point_2 : decode cL_point 2 = .ok (.iconst 0, 1) := by decide +kernel
theorem dL_point_3 : decode cL_point 3 = .ok (.aload_n 0, 1) := by decide +kernel
theorem dL_point_4 : decode cL_point 4 = .ok (.iload_n 1, 1) := by decide +kernel
theorem dL_point_5 : decode cL_point 5 = .ok (.iload_n 2, 1) := by decide +kernel
theorem dL_point_6 : decode cL_point 6 = .ok (.iload_n 3, 1) := by decide +kernel
theorem dL_point_7 : decode cL_point 7 = .ok (.iload 4, 2) := by decide +kernel
theorem dL_point_9 : decode cL_point 9 = .ok (.invokevirtual 48, 3) := by decide +kernel
theorem dL_point_12 : decode cL_point 12 = .ok (.i2l, 1) := by decide +kernel
theorem dL_point_13 : decode cL_point 13 = .ok (.lastore, 1) := by decide +kernel
theorem dL_point_14 : decode cL_point 14 = .ok (.goto 15, 3) := by decide +kernel
theorem dL_point_17 : decode cL_point 17 = .ok (.astore 6, 2) := by decide +kernel
theorem dL_point_19 : decode cL_point 19 = .ok (.iconst 1, 1) := by decide +kernel
theorem dL_point_20 : decode cL_point 20 = .ok (.ireturn, 1) := by decide +kernel
theorem dL_point_21 : decode cL_point 21 = .ok (.astore 6, 2) := by decide +kernel
theorem dL_point_23 : decode cL_point 23 = .ok (.iconst 2, 1) := by decide +kernel
theorem dL_point_24 : decode cL_point 24 = .ok (.ireturn, 1) := by decide +kernel
theorem dL_point_25 : decode cL_point 25 = .ok (.astore 6, 2) := by decide +kernel
theorem dL_point_27 : decode cL_point 27 = .ok (.iconst 3, 1) := by decide +kernel
theorem dL_point_28 : decode cL_point 28 = .ok (.ireturn, 1) := by decide +kernel
theorem dL_point_29 : decode cL_point 29 = .ok (.iconst 0, 1) := by decide +kernel
theorem dL_point_30 : decode cL_point 30 = .ok (.ireturn, 1) := by decide +kernel
theorem dL_bird_0 : decode cL_bird 0 = .ok (.aload_n 3, 1) := by decide +kernel
theorem dL_bird_1 : decode cL_bird 1 = .ok (.iconst 0, 1) := by decide +kernel
theorem dL_bird_2 : decode cL_bird 2 = .ok (.aload_n 0, 1) := by decide +kernel
theorem dL_bird_3 : decode cL_bird 3 = .ok (.iload_n 1, 1) := by decide +kernel
theorem dL_bird_4 : decode cL_bird 4 = .ok (.iload_n 2, 1) := by decide +kernel
theorem dL_bird_5 : decode cL_bird 5 = .ok (.invokevirtual 52, 3) := by decide +kernel
theorem dL_bird_8 : decode cL_bird 8 = .ok (.i2l, 1) := by decide +kernel
theorem dL_bird_9 : decode cL_bird 9 = .ok (.lastore, 1) := by decide +kernel
theorem dL_bird_10 : decode cL_bird 10 = .ok (.goto 7, 3) := by decide +kernel
theorem dL_bird_13 : decode cL_bird 13 = .ok (.astore 4, 2) := by decide +kernel
theorem dL_bird_15 : decode cL_bird 15 = .ok (.iconst 1, 1) := by decide +kernel
theorem dL_bird_16 : decode cL_bird 16 = .ok (.ireturn, 1) := by decide +kernel
theorem dL_bird_17 : decode cL_bird 17 = .ok (.iconst 0, 1) := by decide +kernel
theorem dL_bird_18 : decode cL_bird 18 = .ok (.ireturn, 1) := by decide +kernel
theorem dL_lift_0 : decode cL_lift 0 = .ok (.aload 4, 2) := by decide +kernel
theorem dL_lift_2 : decode cL_lift 2 = .ok (.iconst 0, 1) := by decide +kernel
theorem dL_lift_3 : decode cL_lift 3 = .ok (.aload_n 0, 1) := by decide +kernel
theorem dL_lift_4 : decode cL_lift 4 = .ok (.iload_n 1, 1) := by decide +kernel
theorem dL_lift_5 : decode cL_lift 5 = .ok (.iload_n 2, 1) := by decide +kernel
theorem dL_lift_6 : decode cL_lift 6 = .ok (.iload_n 3, 1) := by decide +kernel
theorem dL_lift_7 : decode cL_lift 7 = .ok (.invokevirtual 55, 3) := by decide +kernel
theorem dL_lift_10 : decode cL_lift 10 = .ok (.i2l, 1) := by decide +kernel
theorem dL_lift_11 : decode cL_lift 11 = .ok (.lastore, 1) := by decide +kernel
theorem dL_lift_12 : decode cL_lift 12 = .ok (.goto 11, 3) := by decide +kernel
theorem dL_lift_15 : decode cL_lift 15 = .ok (.astore 5, 2) := by decide +kernel
theorem dL_lift_17 : decode cL_lift 17 = .ok (.iconst 1, 1) := by decide +kernel
theorem dL_lift_18 : decode cL_lift 18 = .ok (.ireturn, 1) := by decide +kernel
theorem dL_lift_19 : decode cL_lift 19 = .ok (.astore 5, 2) := by decide +kernel
theorem dL_lift_21 : decode cL_lift 21 = .ok (.iconst 2, 1) := by decide +kernel
theorem dL_lift_22 : decode cL_lift 22 = .ok (.ireturn, 1) := by decide +kernel
theorem dL_lift_23 : decode cL_lift 23 = .ok (.iconst 0, 1) := by decide +kernel
theorem dL_lift_24 : decode cL_lift 24 = .ok (.ireturn, 1) := by decide +kernel
theorem dL_run_0 : decode cL_run 0 = .ok (.aload_n 2, 1) := by decide +kernel
theorem dL_run_1 : decode cL_run 1 = .ok (.iconst 0, 1) := by decide +kernel
theorem dL_run_2 : decode cL_run 2 = .ok (.aload_n 0, 1) := by decide +kernel
theorem dL_run_3 : decode cL_run 3 = .ok (.iload_n 1, 1) := by decide +kernel
theorem dL_run_4 : decode cL_run 4 = .ok (.invokevirtual 58, 3) := by decide +kernel
theorem dL_run_7 : decode cL_run 7 = .ok (.i2l, 1) := by decide +kernel
theorem dL_run_8 : decode cL_run 8 = .ok (.lastore, 1) := by decide +kernel
theorem dL_run_9 : decode cL_run 9 = .ok (.goto 6, 3) := by decide +kernel
theorem dL_run_12 : decode cL_run 12 = .ok (.astore_n 3, 1) := by decide +kernel
theorem dL_run_13 : decode cL_run 13 = .ok (.iconst 1, 1) := by decide +kernel
theorem dL_run_14 : decode cL_run 14 = .ok (.ireturn, 1) := by decide +kernel
theorem dL_run_15 : decode cL_run 15 = .ok (.iconst 0, 1) := by decide +kernel
theorem dL_run_16 : decode cL_run 16 = .ok (.ireturn, 1) := by decide +kernel
theorem dL_count_0 : decode cL_count 0 = .ok (.aload_n 2, 1) := by decide +kernel
theorem dL_count_1 : decode cL_count 1 = .ok (.iconst 0, 1) := by decide +kernel
theorem dL_count_2 : decode cL_count 2 = .ok (.aload_n 0, 1) := by decide +kernel
theorem dL_count_3 : decode cL_count 3 = .ok (.iload_n 1, 1) := by decide +kernel
theorem dL_count_4 : decode cL_count 4 = .ok (.invokevirtual 61, 3) := by decide +kernel
theorem dL_count_7 : decode cL_count 7 = .ok (.i2l, 1) := by decide +kernel
theorem dL_count_8 : decode cL_count 8 = .ok (.lastore, 1) := by decide +kernel
theorem dL_count_9 : decode cL_count 9 = .ok (.goto 6, 3) := by decide +kernel
theorem dL_count_12 : decode cL_count 12 = .ok (.astore_n 3, 1) := by decide +kernel
theorem dL_count_13 : decode cL_count 13 = .ok (.iconst 1, 1) := by decide +kernel
theorem dL_count_14 : decode cL_count 14 = .ok (.ireturn, 1) := by decide +kernel
theorem dL_count_15 : decode cL_count 15 = .ok (.iconst 0, 1) := by decide +kernel
theorem dL_count_16 : decode cL_count 16 = .ok (.ireturn, 1) := by decide +kernel
theorem dL_sung_0 : decode cL_sung 0 = .ok (.aload_n 3, 1) := by decide +kernel
theorem dL_sung_1 : decode cL_sung 1 = .ok (.iconst 0, 1) := by decide +kernel
theorem dL_sung_2 : decode cL_sung 2 = .ok (.aload_n 0, 1) := by decide +kernel
theorem dL_sung_3 : decode cL_sung 3 = .ok (.iload_n 1, 1) := by decide +kernel
theorem dL_sung_4 : decode cL_sung 4 = .ok (.iload_n 2, 1) := by decide +kernel
theorem dL_sung_5 : decode cL_sung 5 = .ok (.invokevirtual 64, 3) := by decide +kernel
theorem dL_sung_8 : decode cL_sung 8 = .ok (.i2l, 1) := by decide +kernel
theorem dL_sung_9 : decode cL_sung 9 = .ok (.lastore, 1) := by decide +kernel
theorem dL_sung_10 : decode cL_sung 10 = .ok (.goto 7, 3) := by decide +kernel
theorem dL_sung_13 : decode cL_sung 13 = .ok (.astore 4, 2) := by decide +kernel
theorem dL_sung_15 : decode cL_sung 15 = .ok (.iconst 1, 1) := by decide +kernel
theorem dL_sung_16 : decode cL_sung 16 = .ok (.ireturn, 1) := by decide +kernel
theorem dL_sung_17 : decode cL_sung 17 = .ok (.iconst 0, 1) := by decide +kernel
theorem dL_sung_18 : decode cL_sung 18 = .ok (.ireturn, 1) := by decide +kernel
theorem dL_chord_0 : decode cL_chord 0 = .ok (.aload_n 2, 1) := by decide +kernel
theorem dL_chord_1 : decode cL_chord 1 = .ok (.iconst 0, 1) := by decide +kernel
theorem dL_chord_2 : decode cL_chord 2 = .ok (.aload_n 0, 1) := by decide +kernel
theorem dL_chord_3 : decode cL_chord 3 = .ok (.iload_n 1, 1) := by decide +kernel
theorem dL_chord_4 : decode cL_chord 4 = .ok (.invokevirtual 67, 3) := by decide +kernel
theorem dL_chord_7 : decode cL_chord 7 = .ok (.i2l, 1) := by decide +kernel
theorem dL_chord_8 : decode cL_chord 8 = .ok (.lastore, 1) := by decide +kernel
theorem dL_chord_9 : decode cL_chord 9 = .ok (.goto 6, 3) := by decide +kernel
theorem dL_chord_12 : decode cL_chord 12 = .ok (.astore_n 3, 1) := by decide +kernel
theorem dL_chord_13 : decode cL_chord 13 = .ok (.iconst 1, 1) := by decide +kernel
theorem dL_chord_14 : decode cL_chord 14 = .ok (.ireturn, 1) := by decide +kernel
theorem dL_chord_15 : decode cL_chord 15 = .ok (.iconst 0, 1) := by decide +kernel
theorem dL_chord_16 : decode cL_chord 16 = .ok (.ireturn, 1) := by decide +kernel
theorem dL_runsDown_0 : decode cL_runsDown 0 = .ok (.aload_n 2, 1) := by decide +kernel
theorem dL_runsDown_1 : decode cL_runsDown 1 = .ok (.iconst 0, 1) := by decide +kernel
theorem dL_runsDown_2 : decode cL_runsDown 2 = .ok (.aload_n 0, 1) := by decide +kernel
theorem dL_runsDown_3 : decode cL_runsDown 3 = .ok (.iload_n 1, 1) := by decide +kernel
theorem dL_runsDown_4 : decode cL_runsDown 4 = .ok (.invokevirtual 70, 3) := by decide +kernel
theorem dL_runsDown_7 : decode cL_runsDown 7 = .ok (.i2l, 1) := by decide +kernel
theorem dL_runsDown_8 : decode cL_runsDown 8 = .ok (.lastore, 1) := by decide +kernel
theorem dL_runsDown_9 : decode cL_runsDown 9 = .ok (.goto 6, 3) := by decide +kernel
theorem dL_runsDown_12 : decode cL_runsDown 12 = .ok (.astore_n 3, 1) := by decide +kernel
theorem dL_runsDown_13 : decode cL_runsDown 13 = .ok (.iconst 1, 1) := by decide +kernel
theorem dL_runsDown_14 : decode cL_runsDown 14 = .ok (.ireturn, 1) := by decide +kernel
theorem dL_runsDown_15 : decode cL_runsDown 15 = .ok (.iconst 0, 1) := by decide +kernel
theorem dL_runsDown_16 : decode cL_runsDown 16 = .ok (.ireturn, 1) := by decide +kernel
theorem dL_law_0 : decode cL_law 0 = .ok (.new 8, 3) := by decide +kernel
theorem dL_law_3 : decode cL_law 3 = .ok (.dup, 1) := by decide +kernel
theorem dL_law_4 : decode cL_law 4 = .ok (.invokespecial 73, 3) := by decide +kernel
theorem dL_law_7 : decode cL_law 7 = .ok (.astore_n 1, 1) := by decide +kernel
theorem dL_law_8 : decode cL_law 8 = .ok (.new 74, 3) := by decide +kernel
theorem dL_law_11 : decode cL_law 11 = .ok (.dup, 1) := by decide +kernel
theorem dL_law_12 : decode cL_law 12 = .ok (.invokespecial 76, 3) := by decide +kernel
theorem dL_law_15 : decode cL_law 15 = .ok (.astore_n 2, 1) := by decide +kernel
theorem dL_law_16 : decode cL_law 16 = .ok (.iconst 1, 1) := by decide +kernel
theorem dL_law_17 : decode cL_law 17 = .ok (.newarray .long, 2) := by decide +kernel
theorem dL_law_19 : decode cL_law 19 = .ok (.astore_n 3, 1) := by decide +kernel
theorem dL_law_20 : decode cL_law 20 = .ok (.iconst 0, 1) := by decide +kernel
theorem dL_law_21 : decode cL_law 21 = .ok (.istore 4, 2) := by decide +kernel
theorem dL_law_23 : decode cL_law 23 = .ok (.iload 4, 2) := by decide +kernel
theorem dL_law_25 : decode cL_law 25 = .ok (.aload_n 0, 1) := by decide +kernel
theorem dL_law_26 : decode cL_law 26 = .ok (.arraylength, 1) := by decide +kernel
theorem dL_law_27 : decode cL_law 27 = .ok (.bipush 6, 2) := by decide +kernel
theorem dL_law_29 : decode cL_law 29 = .ok (.isub, 1) := by decide +kernel
theorem dL_law_30 : decode cL_law 30 = .ok (.if_icmp .gt 1463, 3) := by decide +kernel
theorem dL_law_33 : decode cL_law 33 = .ok (.aload_n 0, 1) := by decide +kernel
theorem dL_law_34 : decode cL_law 34 = .ok (.iload 4, 2) := by decide +kernel
theorem dL_law_36 : decode cL_law 36 = .ok (.iaload, 1) := by decide +kernel
theorem dL_law_37 : decode cL_law 37 = .ok (.bipush 31, 2) := by decide +kernel
theorem dL_law_39 : decode cL_law 39 = .ok (.iand, 1) := by decide +kernel
theorem dL_law_40 : decode cL_law 40 = .ok (.tableswitch 1447 0 20 #[100, 156, 224, 315, 411, 479, 583, 674, 754, 834, 926, 994, 1074, 1130, 1186, 1254, 1310, 1323, 1336, 1392, 1433], 100) := by decide +kernel
theorem dL_law_140 : decode cL_law 140 = .ok (.aload_n 1, 1) := by decide +kernel
theorem dL_law_141 : decode cL_law 141 = .ok (.aload_n 0, 1) := by decide +kernel
theorem dL_law_142 : decode cL_law 142 = .ok (.iload 4, 2) := by decide +kernel
theorem dL_law_144 : decode cL_law 144 = .ok (.iconst 1, 1) := by decide +kernel
theorem dL_law_145 : decode cL_law 145 = .ok (.iadd, 1) := by decide +kernel
theorem dL_law_146 : decode cL_law 146 = .ok (.iaload, 1) := by decide +kernel
theorem dL_law_147 : decode cL_law 147 = .ok (.aload_n 3, 1) := by decide +kernel
theorem dL_law_148 : decode cL_law 148 = .ok (.invokestatic 77, 3) := by decide +kernel
theorem dL_law_151 : decode cL_law 151 = .ok (.istore 5, 2) := by decide +kernel
theorem dL_law_153 : decode cL_law 153 = .ok (.aload_n 2, 1) := by decide +kernel
theorem dL_law_154 : decode cL_law 154 = .ok (.aload_n 0, 1) := by decide +kernel
theorem dL_law_155 : decode cL_law 155 = .ok (.iload 4, 2) := by decide +kernel
theorem dL_law_157 : decode cL_law 157 = .ok (.iconst 1, 1) := by decide +kernel
theorem dL_law_158 : decode cL_law 158 = .ok (.iadd, 1) := by decide +kernel
theorem dL_law_159 : decode cL_law 159 = .ok (.iaload, 1) := by decide +kernel
theorem dL_law_160 : decode cL_law 160 = .ok (.invokevirtual 82, 3) := by decide +kernel
theorem dL_law_163 : decode cL_law 163 = .ok (.istore 6, 2) := by decide +kernel
theorem dL_law_165 : decode cL_law 165 = .ok (.aload_n 2, 1) := by decide +kernel
theorem dL_law_166 : decode cL_law 166 = .ok (.invokevirtual 83, 3) := by decide +kernel
theorem dL_law_169 : decode cL_law 169 = .ok (.iload 5, 2) := by decide +kernel
theorem dL_law_171 : decode cL_law 171 = .ok (.if_icmp .eq 5, 3) := by decide +kernel
theorem dL_law_174 : decode cL_law 174 = .ok (.iconst 0, 1) := by decide +kernel
theorem dL_law_175 : decode cL_law 175 = .ok (.ireturn, 1) := by decide +kernel
theorem dL_law_176 : decode cL_law 176 = .ok (.iload 5, 2) := by decide +kernel
theorem dL_law_178 : decode cL_law 178 = .ok (.ifCond .ne 15, 3) := by decide +kernel
theorem dL_law_181 : decode cL_law 181 = .ok (.aload_n 3, 1) := by decide +kernel
theorem dL_law_182 : decode cL_law 182 = .ok (.iconst 0, 1) := by decide +kernel
theorem dL_law_183 : decode cL_law 183 = .ok (.laload, 1) := by decide +kernel
theorem dL_law_184 : decode cL_law 184 = .ok (.iload 6, 2) := by decide +kernel
theorem dL_law_186 : decode cL_law 186 = .ok (.i2l, 1) := by decide +kernel
theorem dL_law_187 : decode cL_law 187 = .ok (.lcmp, 1) := by decide +kernel
theorem dL_law_188 : decode cL_law 188 = .ok (.ifCond .eq 5, 3) := by decide +kernel
theorem dL_law_191 : decode cL_law 191 = .ok (.iconst 0, 1) := by decide +kernel
theorem dL_law_192 : decode cL_law 192 = .ok (.ireturn, 1) := by decide +kernel
theorem dL_law_193 : decode cL_law 193 = .ok (.goto 1294, 3) := by decide +kernel
theorem dL_law_196 : decode cL_law 196 = .ok (.aload_n 1, 1) := by decide +kernel
theorem dL_law_197 : decode cL_law 197 = .ok (.aload_n 0, 1) := by decide +kernel
theorem dL_law_198 : decode cL_law 198 = .ok (.iload 4, 2) := by decide +kernel
theorem dL_law_200 : decode cL_law 200 = .ok (.iconst 1, 1) := by decide +kernel
theorem dL_law_201 : decode cL_law 201 = .ok (.iadd, 1) := by decide +kernel
theorem dL_law_202 : decode cL_law 202 = .ok (.iaload, 1) := by decide +kernel
theorem dL_law_203 : decode cL_law 203 = .ok (.aload_n 0, 1) := by decide +kernel
theorem dL_law_204 : decode cL_law 204 = .ok (.iload 4, 2) := by decide +kernel
theorem dL_law_206 : decode cL_law 206 = .ok (.iconst 2, 1) := by decide +kernel
theorem dL_law_207 : decode cL_law 207 = .ok (.iadd, 1) := by decide +kernel
theorem dL_law_208 : decode cL_law 208 = .ok (.iaload, 1) := by decide +kernel
theorem dL_law_209 : decode cL_law 209 = .ok (.aload_n 3, 1) := by decide +kernel
theorem dL_law_210 : decode cL_law 210 = .ok (.invokestatic 87, 3) := by decide +kernel
theorem dL_law_213 : decode cL_law 213 = .ok (.istore 5, 2) := by decide +kernel
theorem dL_law_215 : decode cL_law 215 = .ok (.aload_n 2, 1) := by decide +kernel
theorem dL_law_216 : decode cL_law 216 = .ok (.aload_n 0, 1) := by decide +kernel
theorem dL_law_217 : decode cL_law 217 = .ok (.iload 4, 2) := by decide +kernel
theorem dL_law_219 : decode cL_law 219 = .ok (.iconst 1, 1) := by decide +kernel
theorem dL_law_220 : decode cL_law 220 = .ok (.iadd, 1) := by decide +kernel
theorem dL_law_221 : decode cL_law 221 = .ok (.iaload, 1) := by decide +kernel
theorem dL_law_222 : decode cL_law 222 = .ok (.aload_n 0, 1) := by decide +kernel
theorem dL_law_223 : decode cL_law 223 = .ok (.iload 4, 2) := by decide +kernel
theorem dL_law_225 : decode cL_law 225 = .ok (.iconst 2, 1) := by decide +kernel
theorem dL_law_226 : decode cL_law 226 = .ok (.iadd, 1) := by decide +kernel
theorem dL_law_227 : decode cL_law 227 = .ok (.iaload, 1) := by decide +kernel
theorem dL_law_228 : decode cL_law 228 = .ok (.invokevirtual 90, 3) := by decide +kernel
theorem dL_law_231 : decode cL_law 231 = .ok (.istore 6, 2) := by decide +kernel
theorem dL_law_233 : decode cL_law 233 = .ok (.aload_n 2, 1) := by decide +kernel
theorem dL_law_234 : decode cL_law 234 = .ok (.invokevirtual 83, 3) := by decide +kernel
theorem dL_law_237 : decode cL_law 237 = .ok (.iload 5, 2) := by decide +kernel
theorem dL_law_239 : decode cL_law 239 = .ok (.if_icmp .eq 5, 3) := by decide +kernel
theorem dL_law_242 : decode cL_law 242 = .ok (.iconst 0, 1) := by decide +kernel
theorem dL_law_243 : decode cL_law 243 = .ok (.ireturn, 1) := by decide +kernel
theorem dL_law_244 : decode cL_law 244 = .ok (.iload 5, 2) := by decide +kernel
theorem dL_law_246 : decode cL_law 246 = .ok (.ifCond .ne 15, 3) := by decide +kernel
theorem dL_law_249 : decode cL_law 249 = .ok (.aload_n 3, 1) := by decide +kernel
theorem dL_law_250 : decode cL_law 250 = .ok (.iconst 0, 1) := by decide +kernel
theorem dL_law_251 : decode cL_law 251 = .ok (.laload, 1) := by decide +kernel
theorem dL_law_252 : decode cL_law 252 = .ok (.iload 6, 2) := by decide +kernel
theorem dL_law_254 : decode cL_law 254 = .ok (.i2l, 1) := by decide +kernel
theorem dL_law_255 : decode cL_law 255 = .ok (.lcmp, 1) := by decide +kernel
theorem dL_law_256 : decode cL_law 256 = .ok (.ifCond .eq 5, 3) := by decide +kernel
theorem dL_law_259 : decode cL_law 259 = .ok (.iconst 0, 1) := by decide +kernel
theorem dL_law_260 : decode cL_law 260 = .ok (.ireturn, 1) := by decide +kernel
theorem dL_law_261 : decode cL_law 261 = .ok (.goto 1226, 3) := by decide +kernel
theorem dL_law_264 : decode cL_law 264 = .ok (.aload_n 1, 1) := by decide +kernel
theorem dL_law_265 : decode cL_law 265 = .ok (.aload_n 0, 1) := by decide +kernel
theorem dL_law_266 : decode cL_law 266 = .ok (.iload 4, 2) := by decide +kernel
theorem dL_law_268 : decode cL_law 268 = .ok (.iconst 1, 1) := by decide +kernel
theorem dL_law_269 : decode cL_law 269 = .ok (.iadd, 1) := by decide +kernel
theorem dL_law_270 : decode cL_law 270 = .ok (.iaload, 1) := by decide +kernel
theorem dL_law_271 : decode cL_law 271 = .ok (.aload_n 0, 1) := by decide +kernel
theorem dL_law_272 : decode cL_law 272 = .ok (.iload 4, 2) := by decide +kernel
theorem dL_law_274 : decode cL_law 274 = .ok (.iconst 2, 1) := by decide +kernel
theorem dL_law_275 : decode cL_law 275 = .ok (.iadd, 1) := by decide +kernel
theorem dL_law_276 : decode cL_law 276 = .ok (.iaload, 1) := by decide +kernel
theorem dL_law_277 : decode cL_law 277 = .ok (.ifCond .eq 7, 3) := by decide +kernel
theorem dL_law_280 : decode cL_law 280 = .ok (.iconst 1, 1) := by decide +kernel
theorem dL_law_281 : decode cL_law 281 = .ok (.goto 4, 3) := by decide +kernel
theorem dL_law_284 : decode cL_law 284 = .ok (.iconst 0, 1) := by decide +kernel
theorem dL_law_285 : decode cL_law 285 = .ok (.aload_n 3, 1) := by decide +kernel
theorem dL_law_286 : decode cL_law 286 = .ok (.invokestatic 91, 3) := by decide +kernel
theorem dL_law_289 : decode cL_law 289 = .ok (.istore 5, 2) := by decide +kernel
theorem dL_law_291 : decode cL_law 291 = .ok (.aload_n 2, 1) := by decide +kernel
theorem dL_law_292 : decode cL_law 292 = .ok (.aload_n 0, 1) := by decide +kernel
theorem dL_law_293 : decode cL_law 293 = .ok (.iload 4, 2) := by decide +kernel
theorem dL_law_295 : decode cL_law 295 = .ok (.iconst 1, 1) := by decide +kernel
theorem dL_law_296 : decode cL_law 296 = .ok (.iadd, 1) := by decide +kernel
theorem dL_law_297 : decode cL_law 297 = .ok (.iaload, 1) := by decide +kernel
theorem dL_law_298 : decode cL_law 298 = .ok (.aload_n 0, 1) := by decide +kernel
theorem dL_law_299 : decode cL_law 299 = .ok (.iload 4, 2) := by decide +kernel
theorem dL_law_301 : decode cL_law 301 = .ok (.iconst 2, 1) := by decide +kernel
theorem dL_law_302 : decode cL_law 302 = .ok (.iadd, 1) := by decide +kernel
theorem dL_law_303 : decode cL_law 303 = .ok (.iaload, 1) := by decide +kernel
theorem dL_law_304 : decode cL_law 304 = .ok (.ifCond .eq 7, 3) := by decide +kernel
theorem dL_law_307 : decode cL_law 307 = .ok (.iconst 1, 1) := by decide +kernel
theorem dL_law_308 : decode cL_law 308 = .ok (.goto 4, 3) := by decide +kernel
theorem dL_law_311 : decode cL_law 311 = .ok (.iconst 0, 1) := by decide +kernel
theorem dL_law_312 : decode cL_law 312 = .ok (.invokevirtual 94, 3) := by decide +kernel
theorem dL_law_315 : decode cL_law 315 = .ok (.istore 6, 2) := by decide +kernel
theorem dL_law_317 : decode cL_law 317 = .ok (.aload_n 2, 1) := by decide +kernel
theorem dL_law_318 : decode cL_law 318 = .ok (.invokevirtual 83, 3) := by decide +kernel
theorem dL_law_321 : decode cL_law 321 = .ok (.iload 5, 2) := by decide +kernel
theorem dL_law_323 : decode cL_law 323 = .ok (.if_icmp .eq 5, 3) := by decide +kernel
theorem dL_law_326 : decode cL_law 326 = .ok (.iconst 0, 1) := by decide +kernel
theorem dL_law_327 : decode cL_law 327 = .ok (.ireturn, 1) := by decide +kernel
theorem dL_law_328 : decode cL_law 328 = .ok (.iload 5, 2) := by decide +kernel
theorem dL_law_330 : decode cL_law 330 = .ok (.ifCond .ne 22, 3) := by decide +kernel
theorem dL_law_333 : decode cL_law 333 = .ok (.aload_n 3, 1) := by decide +kernel
theorem dL_law_334 : decode cL_law 334 = .ok (.iconst 0, 1) := by decide +kernel
theorem dL_law_335 : decode cL_law 335 = .ok (.laload, 1) := by decide +kernel
theorem dL_law_336 : decode cL_law 336 = .ok (.iload 6, 2) := by decide +kernel
theorem dL_law_338 : decode cL_law 338 = .ok (.ifCond .eq 7, 3) := by decide +kernel
theorem dL_law_341 : decode cL_law 341 = .ok (.lconst 1, 1) := by decide +kernel
theorem dL_law_342 : decode cL_law 342 = .ok (.goto 4, 3) := by decide +kernel
theorem dL_law_345 : decode cL_law 345 = .ok (.lconst 0, 1) := by decide +kernel
theorem dL_law_346 : decode cL_law 346 = .ok (.lcmp, 1) := by decide +kernel
theorem dL_law_347 : decode cL_law 347 = .ok (.ifCond .eq 5, 3) := by decide +kernel
theorem dL_law_350 : decode cL_law 350 = .ok (.iconst 0, 1) := by decide +kernel
theorem dL_law_351 : decode cL_law 351 = .ok (.ireturn, 1) := by decide +kernel
theorem dL_law_352 : decode cL_law 352 = .ok (.goto 1135, 3) := by decide +kernel
theorem dL_law_355 : decode cL_law 355 = .ok (.aload_n 1, 1) := by decide +kernel
theorem dL_law_356 : decode cL_law 356 = .ok (.aload_n 0, 1) := by decide +kernel
theorem dL_law_357 : decode cL_law 357 = .ok (.iload 4, 2) := by decide +kernel
theorem dL_law_359 : decode cL_law 359 = .ok (.iconst 1, 1) := by decide +kernel
theorem dL_law_360 : decode cL_law 360 = .ok (.iadd, 1) := by decide +kernel
theorem dL_law_361 : decode cL_law 361 = .ok (.iaload, 1) := by decide +kernel
theorem dL_law_362 : decode cL_law 362 = .ok (.aload_n 0, 1) := by decide +kernel
theorem dL_law_363 : decode cL_law 363 = .ok (.iload 4, 2) := by decide +kernel
theorem dL_law_365 : decode cL_law 365 = .ok (.iconst 2, 1) := by decide +kernel
theorem dL_law_366 : decode cL_law 366 = .ok (.iadd, 1) := by decide +kernel
theorem dL_law_367 : decode cL_law 367 = .ok (.iaload, 1) := by decide +kernel
theorem dL_law_368 : decode cL_law 368 = .ok (.aload_n 0, 1) := by decide +kernel
theorem dL_law_369 : decode cL_law 369 = .ok (.iload 4, 2) := by decide +kernel
theorem dL_law_371 : decode cL_law 371 = .ok (.iconst 3, 1) := by decide +kernel
theorem dL_law_372 : decode cL_law 372 = .ok (.iadd, 1) := by decide +kernel
theorem dL_law_373 : decode cL_law 373 = .ok (.iaload, 1) := by decide +kernel
theorem dL_law_374 : decode cL_law 374 = .ok (.ifCond .eq 7, 3) := by decide +kernel
theorem dL_law_377 : decode cL_law 377 = .ok (.iconst 1, 1) := by decide +kernel
theorem dL_law_378 : decode cL_law 378 = .ok (.goto 4, 3) := by decide +kernel
theorem dL_law_381 : decode cL_law 381 = .ok (.iconst 0, 1) := by decide +kernel
theorem dL_law_382 : decode cL_law 382 = .ok (.aload_n 3, 1) := by decide +kernel
theorem dL_law_383 : decode cL_law 383 = .ok (.invokestatic 95, 3) := by decide +kernel
theorem dL_law_386 : decode cL_law 386 = .ok (.istore 5, 2) := by decide +kernel
theorem dL_law_388 : decode cL_law 388 = .ok (.aload_n 2, 1) := by decide +kernel
theorem dL_law_389 : decode cL_law 389 = .ok (.aload_n 0, 1) := by decide +kernel
theorem dL_law_390 : decode cL_law 390 = .ok (.iload 4, 2) := by decide +kernel
theorem dL_law_392 : decode cL_law 392 = .ok (.iconst 1, 1) := by decide +kernel
theorem dL_law_393 : decode cL_law 393 = .ok (.iadd, 1) := by decide +kernel
theorem dL_law_394 : decode cL_law 394 = .ok (.iaload, 1) := by decide +kernel
theorem dL_law_395 : decode cL_law 395 = .ok (.aload_n 0, 1) := by decide +kernel
theorem dL_law_396 : decode cL_law 396 = .ok (.iload 4, 2) := by decide +kernel
theorem dL_law_398 : decode cL_law 398 = .ok (.iconst 2, 1) := by decide +kernel
theorem dL_law_399 : decode cL_law 399 = .ok (.iadd, 1) := by decide +kernel
theorem dL_law_400 : decode cL_law 400 = .ok (.iaload, 1) := by decide +kernel
theorem dL_law_401 : decode cL_law 401 = .ok (.aload_n 0, 1) := by decide +kernel
theorem dL_law_402 : decode cL_law 402 = .ok (.iload 4, 2) := by decide +kernel
theorem dL_law_404 : decode cL_law 404 = .ok (.iconst 3, 1) := by decide +kernel
theorem dL_law_405 : decode cL_law 405 = .ok (.iadd, 1) := by decide +kernel
theorem dL_law_406 : decode cL_law 406 = .ok (.iaload, 1) := by decide +kernel
theorem dL_law_407 : decode cL_law 407 = .ok (.ifCond .eq 7, 3) := by decide +kernel
theorem dL_law_410 : decode cL_law 410 = .ok (.iconst 1, 1) := by decide +kernel
theorem dL_law_411 : decode cL_law 411 = .ok (.goto 4, 3) := by decide +kernel
theorem dL_law_414 : decode cL_law 414 = .ok (.iconst 0, 1) := by decide +kernel
theorem dL_law_415 : decode cL_law 415 = .ok (.invokevirtual 98, 3) := by decide +kernel
theorem dL_law_418 : decode cL_law 418 = .ok (.istore 6, 2) := by decide +kernel
theorem dL_law_420 : decode cL_law 420 = .ok (.aload_n 2, 1) := by decide +kernel
theorem dL_law_421 : decode cL_law 421 = .ok (.invokevirtual 83, 3) := by decide +kernel
theorem dL_law_424 : decode cL_law 424 = .ok (.iload 5, 2) := by decide +kernel
theorem dL_law_426 : decode cL_law 426 = .ok (.if_icmp .eq 5, 3) := by decide +kernel
theorem dL_law_429 : decode cL_law 429 = .ok (.iconst 0, 1) := by decide +kernel
theorem dL_law_430 : decode cL_law 430 = .ok (.ireturn, 1) := by decide +kernel
theorem dL_law_431 : decode cL_law 431 = .ok (.iload 5, 2) := by decide +kernel
theorem dL_law_433 : decode cL_law 433 = .ok (.ifCond .ne 15, 3) := by decide +kernel
theorem dL_law_436 : decode cL_law 436 = .ok (.aload_n 3, 1) := by decide +kernel
theorem dL_law_437 : decode cL_law 437 = .ok (.iconst 0, 1) := by decide +kernel
theorem dL_law_438 : decode cL_law 438 = .ok (.laload, 1) := by decide +kernel
theorem dL_law_439 : decode cL_law 439 = .ok (.iload 6, 2) := by decide +kernel
theorem dL_law_441 : decode cL_law 441 = .ok (.i2l, 1) := by decide +kernel
theorem dL_law_442 : decode cL_law 442 = .ok (.lcmp, 1) := by decide +kernel
theorem dL_law_443 : decode cL_law 443 = .ok (.ifCond .eq 5, 3) := by decide +kernel
theorem dL_law_446 : decode cL_law 446 = .ok (.iconst 0, 1) := by decide +kernel
theorem dL_law_447 : decode cL_law 447 = .ok (.ireturn, 1) := by decide +kernel
theorem dL_law_448 : decode cL_law 448 = .ok (.goto 1039, 3) := by decide +kernel
theorem dL_law_451 : decode cL_law 451 = .ok (.aload_n 1, 1) := by decide +kernel
theorem dL_law_452 : decode cL_law 452 = .ok (.aload_n 0, 1) := by decide +kernel
theorem dL_law_453 : decode cL_law 453 = .ok (.iload 4, 2) := by decide +kernel
theorem dL_law_455 : decode cL_law 455 = .ok (.iconst 1, 1) := by decide +kernel
theorem dL_law_456 : decode cL_law 456 = .ok (.iadd, 1) := by decide +kernel
theorem dL_law_457 : decode cL_law 457 = .ok (.iaload, 1) := by decide +kernel
theorem dL_law_458 : decode cL_law 458 = .ok (.aload_n 0, 1) := by decide +kernel
theorem dL_law_459 : decode cL_law 459 = .ok (.iload 4, 2) := by decide +kernel
theorem dL_law_461 : decode cL_law 461 = .ok (.iconst 2, 1) := by decide +kernel
theorem dL_law_462 : decode cL_law 462 = .ok (.iadd, 1) := by decide +kernel
theorem dL_law_463 : decode cL_law 463 = .ok (.iaload, 1) := by decide +kernel
theorem dL_law_464 : decode cL_law 464 = .ok (.aload_n 3, 1) := by decide +kernel
theorem dL_law_465 : decode cL_law 465 = .ok (.invokestatic 99, 3) := by decide +kernel
theorem dL_law_468 : decode cL_law 468 = .ok (.istore 5, 2) := by decide +kernel
theorem dL_law_470 : decode cL_law 470 = .ok (.aload_n 2, 1) := by decide +kernel
theorem dL_law_471 : decode cL_law 471 = .ok (.aload_n 0, 1) := by decide +kernel
theorem dL_law_472 : decode cL_law 472 = .ok (.iload 4, 2) := by decide +kernel
theorem dL_law_474 : decode cL_law 474 = .ok (.iconst 1, 1) := by decide +kernel
theorem dL_law_475 : decode cL_law 475 = .ok (.iadd, 1) := by decide +kernel
theorem dL_law_476 : decode cL_law 476 = .ok (.iaload, 1) := by decide +kernel
theorem dL_law_477 : decode cL_law 477 = .ok (.aload_n 0, 1) := by decide +kernel
theorem dL_law_478 : decode cL_law 478 = .ok (.iload 4, 2) := by decide +kernel
theorem dL_law_480 : decode cL_law 480 = .ok (.iconst 2, 1) := by decide +kernel
theorem dL_law_481 : decode cL_law 481 = .ok (.iadd, 1) := by decide +kernel
theorem dL_law_482 : decode cL_law 482 = .ok (.iaload, 1) := by decide +kernel
theorem dL_law_483 : decode cL_law 483 = .ok (.invokevirtual 101, 3) := by decide +kernel
theorem dL_law_486 : decode cL_law 486 = .ok (.istore 6, 2) := by decide +kernel
theorem dL_law_488 : decode cL_law 488 = .ok (.aload_n 2, 1) := by decide +kernel
theorem dL_law_489 : decode cL_law 489 = .ok (.invokevirtual 83, 3) := by decide +kernel
theorem dL_law_492 : decode cL_law 492 = .ok (.iload 5, 2) := by decide +kernel
theorem dL_law_494 : decode cL_law 494 = .ok (.if_icmp .eq 5, 3) := by decide +kernel
theorem dL_law_497 : decode cL_law 497 = .ok (.iconst 0, 1) := by decide +kernel
theorem dL_law_498 : decode cL_law 498 = .ok (.ireturn, 1) := by decide +kernel
theorem dL_law_499 : decode cL_law 499 = .ok (.iload 5, 2) := by decide +kernel
theorem dL_law_501 : decode cL_law 501 = .ok (.ifCond .ne 15, 3) := by decide +kernel
theorem dL_law_504 : decode cL_law 504 = .ok (.aload_n 3, 1) := by decide +kernel
theorem dL_law_505 : decode cL_law 505 = .ok (.iconst 0, 1) := by decide +kernel
theorem dL_law_506 : decode cL_law 506 = .ok (.laload, 1) := by decide +kernel
theorem dL_law_507 : decode cL_law 507 = .ok (.iload 6, 2) := by decide +kernel
theorem dL_law_509 : decode cL_law 509 = .ok (.i2l, 1) := by decide +kernel
theorem dL_law_510 : decode cL_law 510 = .ok (.lcmp, 1) := by decide +kernel
theorem dL_law_511 : decode cL_law 511 = .ok (.ifCond .eq 5, 3) := by decide +kernel
theorem dL_law_514 : decode cL_law 514 = .ok (.iconst 0, 1) := by decide +kernel
theorem dL_law_515 : decode cL_law 515 = .ok (.ireturn, 1) := by decide +kernel
theorem dL_law_516 : decode cL_law 516 = .ok (.goto 971, 3) := by decide +kernel
theorem dL_law_519 : decode cL_law 519 = .ok (.aload_n 1, 1) := by decide +kernel
theorem dL_law_520 : decode cL_law 520 = .ok (.aload_n 0, 1) := by decide +kernel
theorem dL_law_521 : decode cL_law 521 = .ok (.iload 4, 2) := by decide +kernel
theorem dL_law_523 : decode cL_law 523 = .ok (.iconst 1, 1) := by decide +kernel
theorem dL_law_524 : decode cL_law 524 = .ok (.iadd, 1) := by decide +kernel
theorem dL_law_525 : decode cL_law 525 = .ok (.iaload, 1) := by decide +kernel
theorem dL_law_526 : decode cL_law 526 = .ok (.aload_n 0, 1) := by decide +kernel
theorem dL_law_527 : decode cL_law 527 = .ok (.iload 4, 2) := by decide +kernel
theorem dL_law_529 : decode cL_law 529 = .ok (.iconst 2, 1) := by decide +kernel
theorem dL_law_530 : decode cL_law 530 = .ok (.iadd, 1) := by decide +kernel
theorem dL_law_531 : decode cL_law 531 = .ok (.iaload, 1) := by decide +kernel
theorem dL_law_532 : decode cL_law 532 = .ok (.aload_n 0, 1) := by decide +kernel
theorem dL_law_533 : decode cL_law 533 = .ok (.iload 4, 2) := by decide +kernel
theorem dL_law_535 : decode cL_law 535 = .ok (.iconst 3, 1) := by decide +kernel
theorem dL_law_536 : decode cL_law 536 = .ok (.iadd, 1) := by decide +kernel
theorem dL_law_537 : decode cL_law 537 = .ok (.iaload, 1) := by decide +kernel
theorem dL_law_538 : decode cL_law 538 = .ok (.aload_n 0, 1) := by decide +kernel
theorem dL_law_539 : decode cL_law 539 = .ok (.iload 4, 2) := by decide +kernel
theorem dL_law_541 : decode cL_law 541 = .ok (.iconst 4, 1) := by decide +kernel
theorem dL_law_542 : decode cL_law 542 = .ok (.iadd, 1) := by decide +kernel
theorem dL_law_543 : decode cL_law 543 = .ok (.iaload, 1) := by decide +kernel
theorem dL_law_544 : decode cL_law 544 = .ok (.aload_n 0, 1) := by decide +kernel
theorem dL_law_545 : decode cL_law 545 = .ok (.iload 4, 2) := by decide +kernel
theorem dL_law_547 : decode cL_law 547 = .ok (.iconst 5, 1) := by decide +kernel
theorem dL_law_548 : decode cL_law 548 = .ok (.iadd, 1) := by decide +kernel
theorem dL_law_549 : decode cL_law 549 = .ok (.iaload, 1) := by decide +kernel
theorem dL_law_550 : decode cL_law 550 = .ok (.aload_n 3, 1) := by decide +kernel
theorem dL_law_551 : decode cL_law 551 = .ok (.invokestatic 102, 3) := by decide +kernel
theorem dL_law_554 : decode cL_law 554 = .ok (.istore 5, 2) := by decide +kernel
theorem dL_law_556 : decode cL_law 556 = .ok (.aload_n 2, 1) := by decide +kernel
theorem dL_law_557 : decode cL_law 557 = .ok (.aload_n 0, 1) := by decide +kernel
theorem dL_law_558 : decode cL_law 558 = .ok (.iload 4, 2) := by decide +kernel
theorem dL_law_560 : decode cL_law 560 = .ok (.iconst 1, 1) := by decide +kernel
theorem dL_law_561 : decode cL_law 561 = .ok (.iadd, 1) := by decide +kernel
theorem dL_law_562 : decode cL_law 562 = .ok (.iaload, 1) := by decide +kernel
theorem dL_law_563 : decode cL_law 563 = .ok (.aload_n 0, 1) := by decide +kernel
theorem dL_law_564 : decode cL_law 564 = .ok (.iload 4, 2) := by decide +kernel
theorem dL_law_566 : decode cL_law 566 = .ok (.iconst 2, 1) := by decide +kernel
theorem dL_law_567 : decode cL_law 567 = .ok (.iadd, 1) := by decide +kernel
theorem dL_law_568 : decode cL_law 568 = .ok (.iaload, 1) := by decide +kernel
theorem dL_law_569 : decode cL_law 569 = .ok (.aload_n 0, 1) := by decide +kernel
theorem dL_law_570 : decode cL_law 570 = .ok (.iload 4, 2) := by decide +kernel
theorem dL_law_572 : decode cL_law 572 = .ok (.iconst 3, 1) := by decide +kernel
theorem dL_law_573 : decode cL_law 573 = .ok (.iadd, 1) := by decide +kernel
theorem dL_law_574 : decode cL_law 574 = .ok (.iaload, 1) := by decide +kernel
theorem dL_law_575 : decode cL_law 575 = .ok (.aload_n 0, 1) := by decide +kernel
theorem dL_law_576 : decode cL_law 576 = .ok (.iload 4, 2) := by decide +kernel
theorem dL_law_578 : decode cL_law 578 = .ok (.iconst 4, 1) := by decide +kernel
theorem dL_law_579 : decode cL_law 579 = .ok (.iadd, 1) := by decide +kernel
theorem dL_law_580 : decode cL_law 580 = .ok (.iaload, 1) := by decide +kernel
theorem dL_law_581 : decode cL_law 581 = .ok (.aload_n 0, 1) := by decide +kernel
theorem dL_law_582 : decode cL_law 582 = .ok (.iload 4, 2) := by decide +kernel
theorem dL_law_584 : decode cL_law 584 = .ok (.iconst 5, 1) := by decide +kernel
theorem dL_law_585 : decode cL_law 585 = .ok (.iadd, 1) := by decide +kernel
theorem dL_law_586 : decode cL_law 586 = .ok (.iaload, 1) := by decide +kernel
theorem dL_law_587 : decode cL_law 587 = .ok (.invokevirtual 105, 3) := by decide +kernel
theorem dL_law_590 : decode cL_law 590 = .ok (.istore 6, 2) := by decide +kernel
theorem dL_law_592 : decode cL_law 592 = .ok (.aload_n 2, 1) := by decide +kernel
theorem dL_law_593 : decode cL_law 593 = .ok (.invokevirtual 83, 3) := by decide +kernel
theorem dL_law_596 : decode cL_law 596 = .ok (.iload 5, 2) := by decide +kernel
theorem dL_law_598 : decode cL_law 598 = .ok (.if_icmp .eq 5, 3) := by decide +kernel
theorem dL_law_601 : decode cL_law 601 = .ok (.iconst 0, 1) := by decide +kernel
theorem dL_law_602 : decode cL_law 602 = .ok (.ireturn, 1) := by decide +kernel
theorem dL_law_603 : decode cL_law 603 = .ok (.iload 5, 2) := by decide +kernel
theorem dL_law_605 : decode cL_law 605 = .ok (.ifCond .ne 15, 3) := by decide +kernel
theorem dL_law_608 : decode cL_law 608 = .ok (.aload_n 3, 1) := by decide +kernel
theorem dL_law_609 : decode cL_law 609 = .ok (.iconst 0, 1) := by decide +kernel
theorem dL_law_610 : decode cL_law 610 = .ok (.laload, 1) := by decide +kernel
theorem dL_law_611 : decode cL_law 611 = .ok (.iload 6, 2) := by decide +kernel
theorem dL_law_613 : decode cL_law 613 = .ok (.i2l, 1) := by decide +kernel
theorem dL_law_614 : decode cL_law 614 = .ok (.lcmp, 1) := by decide +kernel
theorem dL_law_615 : decode cL_law 615 = .ok (.ifCond .eq 5, 3) := by decide +kernel
theorem dL_law_618 : decode cL_law 618 = .ok (.iconst 0, 1) := by decide +kernel
theorem dL_law_619 : decode cL_law 619 = .ok (.ireturn, 1) := by decide +kernel
theorem dL_law_620 : decode cL_law 620 = .ok (.goto 867, 3) := by decide +kernel
theorem dL_law_623 : decode cL_law 623 = .ok (.aload_n 1, 1) := by decide +kernel
theorem dL_law_624 : decode cL_law 624 = .ok (.aload_n 0, 1) := by decide +kernel
theorem dL_law_625 : decode cL_law 625 = .ok (.iload 4, 2) := by decide +kernel
theorem dL_law_627 : decode cL_law 627 = .ok (.iconst 1, 1) := by decide +kernel
theorem dL_law_628 : decode cL_law 628 = .ok (.iadd, 1) := by decide +kernel
theorem dL_law_629 : decode cL_law 629 = .ok (.iaload, 1) := by decide +kernel
theorem dL_law_630 : decode cL_law 630 = .ok (.aload_n 0, 1) := by decide +kernel
theorem dL_law_631 : decode cL_law 631 = .ok (.iload 4, 2) := by decide +kernel
theorem dL_law_633 : decode cL_law 633 = .ok (.iconst 2, 1) := by decide +kernel
theorem dL_law_634 : decode cL_law 634 = .ok (.iadd, 1) := by decide +kernel
theorem dL_law_635 : decode cL_law 635 = .ok (.iaload, 1) := by decide +kernel
theorem dL_law_636 : decode cL_law 636 = .ok (.ifCond .eq 7, 3) := by decide +kernel
theorem dL_law_639 : decode cL_law 639 = .ok (.iconst 1, 1) := by decide +kernel
theorem dL_law_640 : decode cL_law 640 = .ok (.goto 4, 3) := by decide +kernel
theorem dL_law_643 : decode cL_law 643 = .ok (.iconst 0, 1) := by decide +kernel
theorem dL_law_644 : decode cL_law 644 = .ok (.aload_n 3, 1) := by decide +kernel
theorem dL_law_645 : decode cL_law 645 = .ok (.invokestatic 106, 3) := by decide +kernel
theorem dL_law_648 : decode cL_law 648 = .ok (.istore 5, 2) := by decide +kernel
theorem dL_law_650 : decode cL_law 650 = .ok (.aload_n 2, 1) := by decide +kernel
theorem dL_law_651 : decode cL_law 651 = .ok (.aload_n 0, 1) := by decide +kernel
theorem dL_law_652 : decode cL_law 652 = .ok (.iload 4, 2) := by decide +kernel
theorem dL_law_654 : decode cL_law 654 = .ok (.iconst 1, 1) := by decide +kernel
theorem dL_law_655 : decode cL_law 655 = .ok (.iadd, 1) := by decide +kernel
theorem dL_law_656 : decode cL_law 656 = .ok (.iaload, 1) := by decide +kernel
theorem dL_law_657 : decode cL_law 657 = .ok (.aload_n 0, 1) := by decide +kernel
theorem dL_law_658 : decode cL_law 658 = .ok (.iload 4, 2) := by decide +kernel
theorem dL_law_660 : decode cL_law 660 = .ok (.iconst 2, 1) := by decide +kernel
theorem dL_law_661 : decode cL_law 661 = .ok (.iadd, 1) := by decide +kernel
theorem dL_law_662 : decode cL_law 662 = .ok (.iaload, 1) := by decide +kernel
theorem dL_law_663 : decode cL_law 663 = .ok (.ifCond .eq 7, 3) := by decide +kernel
theorem dL_law_666 : decode cL_law 666 = .ok (.iconst 1, 1) := by decide +kernel
theorem dL_law_667 : decode cL_law 667 = .ok (.goto 4, 3) := by decide +kernel
theorem dL_law_670 : decode cL_law 670 = .ok (.iconst 0, 1) := by decide +kernel
theorem dL_law_671 : decode cL_law 671 = .ok (.invokevirtual 108, 3) := by decide +kernel
theorem dL_law_674 : decode cL_law 674 = .ok (.istore 6, 2) := by decide +kernel
theorem dL_law_676 : decode cL_law 676 = .ok (.aload_n 2, 1) := by decide +kernel
theorem dL_law_677 : decode cL_law 677 = .ok (.invokevirtual 83, 3) := by decide +kernel
theorem dL_law_680 : decode cL_law 680 = .ok (.iload 5, 2) := by decide +kernel
theorem dL_law_682 : decode cL_law 682 = .ok (.if_icmp .eq 5, 3) := by decide +kernel
theorem dL_law_685 : decode cL_law 685 = .ok (.iconst 0, 1) := by decide +kernel
theorem dL_law_686 : decode cL_law 686 = .ok (.ireturn, 1) := by decide +kernel
theorem dL_law_687 : decode cL_law 687 = .ok (.iload 5, 2) := by decide +kernel
theorem dL_law_689 : decode cL_law 689 = .ok (.ifCond .ne 22, 3) := by decide +kernel
theorem dL_law_692 : decode cL_law 692 = .ok (.aload_n 3, 1) := by decide +kernel
theorem dL_law_693 : decode cL_law 693 = .ok (.iconst 0, 1) := by decide +kernel
theorem dL_law_694 : decode cL_law 694 = .ok (.laload, 1) := by decide +kernel
theorem dL_law_695 : decode cL_law 695 = .ok (.iload 6, 2) := by decide +kernel
theorem dL_law_697 : decode cL_law 697 = .ok (.ifCond .eq 7, 3) := by decide +kernel
theorem dL_law_700 : decode cL_law 700 = .ok (.lconst 1, 1) := by decide +kernel
theorem dL_law_701 : decode cL_law 701 = .ok (.goto 4, 3) := by decide +kernel
theorem dL_law_704 : decode cL_law 704 = .ok (.lconst 0, 1) := by decide +kernel
theorem dL_law_705 : decode cL_law 705 = .ok (.lcmp, 1) := by decide +kernel
theorem dL_law_706 : decode cL_law 706 = .ok (.ifCond .eq 5, 3) := by decide +kernel
theorem dL_law_709 : decode cL_law 709 = .ok (.iconst 0, 1) := by decide +kernel
theorem dL_law_710 : decode cL_law 710 = .ok (.ireturn, 1) := by decide +kernel
theorem dL_law_711 : decode cL_law 711 = .ok (.goto 776, 3) := by decide +kernel
theorem dL_law_714 : decode cL_law 714 = .ok (.aload_n 1, 1) := by decide +kernel
theorem dL_law_715 : decode cL_law 715 = .ok (.aload_n 0, 1) := by decide +kernel
theorem dL_law_716 : decode cL_law 716 = .ok (.iload 4, 2) := by decide +kernel
theorem dL_law_718 : decode cL_law 718 = .ok (.iconst 1, 1) := by decide +kernel
theorem dL_law_719 : decode cL_law 719 = .ok (.iadd, 1) := by decide +kernel
theorem dL_law_720 : decode cL_law 720 = .ok (.iaload, 1) := by decide +kernel
theorem dL_law_721 : decode cL_law 721 = .ok (.aload_n 0, 1) := by decide +kernel
theorem dL_law_722 : decode cL_law 722 = .ok (.iload 4, 2) := by decide +kernel
theorem dL_law_724 : decode cL_law 724 = .ok (.iconst 2, 1) := by decide +kernel
theorem dL_law_725 : decode cL_law 725 = .ok (.iadd, 1) := by decide +kernel
theorem dL_law_726 : decode cL_law 726 = .ok (.iaload, 1) := by decide +kernel
theorem dL_law_727 : decode cL_law 727 = .ok (.aload_n 0, 1) := by decide +kernel
theorem dL_law_728 : decode cL_law 728 = .ok (.iload 4, 2) := by decide +kernel
theorem dL_law_730 : decode cL_law 730 = .ok (.iconst 3, 1) := by decide +kernel
theorem dL_law_731 : decode cL_law 731 = .ok (.iadd, 1) := by decide +kernel
theorem dL_law_732 : decode cL_law 732 = .ok (.iaload, 1) := by decide +kernel
theorem dL_law_733 : decode cL_law 733 = .ok (.aload_n 3, 1) := by decide +kernel
theorem dL_law_734 : decode cL_law 734 = .ok (.invokestatic 109, 3) := by decide +kernel
theorem dL_law_737 : decode cL_law 737 = .ok (.istore 5, 2) := by decide +kernel
theorem dL_law_739 : decode cL_law 739 = .ok (.aload_n 2, 1) := by decide +kernel
theorem dL_law_740 : decode cL_law 740 = .ok (.aload_n 0, 1) := by decide +kernel
theorem dL_law_741 : decode cL_law 741 = .ok (.iload 4, 2) := by decide +kernel
theorem dL_law_743 : decode cL_law 743 = .ok (.iconst 1, 1) := by decide +kernel
theorem dL_law_744 : decode cL_law 744 = .ok (.iadd, 1) := by decide +kernel
theorem dL_law_745 : decode cL_law 745 = .ok (.iaload, 1) := by decide +kernel
theorem dL_law_746 : decode cL_law 746 = .ok (.aload_n 0, 1) := by decide +kernel
theorem dL_law_747 : decode cL_law 747 = .ok (.iload 4, 2) := by decide +kernel
theorem dL_law_749 : decode cL_law 749 = .ok (.iconst 2, 1) := by decide +kernel
theorem dL_law_750 : decode cL_law 750 = .ok (.iadd, 1) := by decide +kernel
theorem dL_law_751 : decode cL_law 751 = .ok (.iaload, 1) := by decide +kernel
theorem dL_law_752 : decode cL_law 752 = .ok (.aload_n 0, 1) := by decide +kernel
theorem dL_law_753 : decode cL_law 753 = .ok (.iload 4, 2) := by decide +kernel
theorem dL_law_755 : decode cL_law 755 = .ok (.iconst 3, 1) := by decide +kernel
theorem dL_law_756 : decode cL_law 756 = .ok (.iadd, 1) := by decide +kernel
theorem dL_law_757 : decode cL_law 757 = .ok (.iaload, 1) := by decide +kernel
theorem dL_law_758 : decode cL_law 758 = .ok (.invokevirtual 112, 3) := by decide +kernel
theorem dL_law_761 : decode cL_law 761 = .ok (.istore 6, 2) := by decide +kernel
theorem dL_law_763 : decode cL_law 763 = .ok (.aload_n 2, 1) := by decide +kernel
theorem dL_law_764 : decode cL_law 764 = .ok (.invokevirtual 83, 3) := by decide +kernel
theorem dL_law_767 : decode cL_law 767 = .ok (.iload 5, 2) := by decide +kernel
theorem dL_law_769 : decode cL_law 769 = .ok (.if_icmp .eq 5, 3) := by decide +kernel
theorem dL_law_772 : decode cL_law 772 = .ok (.iconst 0, 1) := by decide +kernel
theorem dL_law_773 : decode cL_law 773 = .ok (.ireturn, 1) := by decide +kernel
theorem dL_law_774 : decode cL_law 774 = .ok (.iload 5, 2) := by decide +kernel
theorem dL_law_776 : decode cL_law 776 = .ok (.ifCond .ne 15, 3) := by decide +kernel
theorem dL_law_779 : decode cL_law 779 = .ok (.aload_n 3, 1) := by decide +kernel
theorem dL_law_780 : decode cL_law 780 = .ok (.iconst 0, 1) := by decide +kernel
theorem dL_law_781 : decode cL_law 781 = .ok (.laload, 1) := by decide +kernel
theorem dL_law_782 : decode cL_law 782 = .ok (.iload 6, 2) := by decide +kernel
theorem dL_law_784 : decode cL_law 784 = .ok (.i2l, 1) := by decide +kernel
theorem dL_law_785 : decode cL_law 785 = .ok (.lcmp, 1) := by decide +kernel
theorem dL_law_786 : decode cL_law 786 = .ok (.ifCond .eq 5, 3) := by decide +kernel
theorem dL_law_789 : decode cL_law 789 = .ok (.iconst 0, 1) := by decide +kernel
theorem dL_law_790 : decode cL_law 790 = .ok (.ireturn, 1) := by decide +kernel
theorem dL_law_791 : decode cL_law 791 = .ok (.goto 696, 3) := by decide +kernel
theorem dL_law_794 : decode cL_law 794 = .ok (.aload_n 1, 1) := by decide +kernel
theorem dL_law_795 : decode cL_law 795 = .ok (.aload_n 0, 1) := by decide +kernel
theorem dL_law_796 : decode cL_law 796 = .ok (.iload 4, 2) := by decide +kernel
theorem dL_law_798 : decode cL_law 798 = .ok (.iconst 1, 1) := by decide +kernel
theorem dL_law_799 : decode cL_law 799 = .ok (.iadd, 1) := by decide +kernel
theorem dL_law_800 : decode cL_law 800 = .ok (.iaload, 1) := by decide +kernel
theorem dL_law_801 : decode cL_law 801 = .ok (.aload_n 0, 1) := by decide +kernel
theorem dL_law_802 : decode cL_law 802 = .ok (.iload 4, 2) := by decide +kernel
theorem dL_law_804 : decode cL_law 804 = .ok (.iconst 2, 1) := by decide +kernel
theorem dL_law_805 : decode cL_law 805 = .ok (.iadd, 1) := by decide +kernel
theorem dL_law_806 : decode cL_law 806 = .ok (.iaload, 1) := by decide +kernel
theorem dL_law_807 : decode cL_law 807 = .ok (.aload_n 0, 1) := by decide +kernel
theorem dL_law_808 : decode cL_law 808 = .ok (.iload 4, 2) := by decide +kernel
theorem dL_law_810 : decode cL_law 810 = .ok (.iconst 3, 1) := by decide +kernel
theorem dL_law_811 : decode cL_law 811 = .ok (.iadd, 1) := by decide +kernel
theorem dL_law_812 : decode cL_law 812 = .ok (.iaload, 1) := by decide +kernel
theorem dL_law_813 : decode cL_law 813 = .ok (.aload_n 3, 1) := by decide +kernel
theorem dL_law_814 : decode cL_law 814 = .ok (.invokestatic 113, 3) := by decide +kernel
theorem dL_law_817 : decode cL_law 817 = .ok (.istore 5, 2) := by decide +kernel
theorem dL_law_819 : decode cL_law 819 = .ok (.aload_n 2, 1) := by decide +kernel
theorem dL_law_820 : decode cL_law 820 = .ok (.aload_n 0, 1) := by decide +kernel
theorem dL_law_821 : decode cL_law 821 = .ok (.iload 4, 2) := by decide +kernel
theorem dL_law_823 : decode cL_law 823 = .ok (.iconst 1, 1) := by decide +kernel
theorem dL_law_824 : decode cL_law 824 = .ok (.iadd, 1) := by decide +kernel
theorem dL_law_825 : decode cL_law 825 = .ok (.iaload, 1) := by decide +kernel
theorem dL_law_826 : decode cL_law 826 = .ok (.aload_n 0, 1) := by decide +kernel
theorem dL_law_827 : decode cL_law 827 = .ok (.iload 4, 2) := by decide +kernel
theorem dL_law_829 : decode cL_law 829 = .ok (.iconst 2, 1) := by decide +kernel
theorem dL_law_830 : decode cL_law 830 = .ok (.iadd, 1) := by decide +kernel
theorem dL_law_831 : decode cL_law 831 = .ok (.iaload, 1) := by decide +kernel
theorem dL_law_832 : decode cL_law 832 = .ok (.aload_n 0, 1) := by decide +kernel
theorem dL_law_833 : decode cL_law 833 = .ok (.iload 4, 2) := by decide +kernel
theorem dL_law_835 : decode cL_law 835 = .ok (.iconst 3, 1) := by decide +kernel
theorem dL_law_836 : decode cL_law 836 = .ok (.iadd, 1) := by decide +kernel
theorem dL_law_837 : decode cL_law 837 = .ok (.iaload, 1) := by decide +kernel
theorem dL_law_838 : decode cL_law 838 = .ok (.invokevirtual 115, 3) := by decide +kernel
theorem dL_law_841 : decode cL_law 841 = .ok (.istore 6, 2) := by decide +kernel
theorem dL_law_843 : decode cL_law 843 = .ok (.aload_n 2, 1) := by decide +kernel
theorem dL_law_844 : decode cL_law 844 = .ok (.invokevirtual 83, 3) := by decide +kernel
theorem dL_law_847 : decode cL_law 847 = .ok (.iload 5, 2) := by decide +kernel
theorem dL_law_849 : decode cL_law 849 = .ok (.if_icmp .eq 5, 3) := by decide +kernel
theorem dL_law_852 : decode cL_law 852 = .ok (.iconst 0, 1) := by decide +kernel
theorem dL_law_853 : decode cL_law 853 = .ok (.ireturn, 1) := by decide +kernel
theorem dL_law_854 : decode cL_law 854 = .ok (.iload 5, 2) := by decide +kernel
theorem dL_law_856 : decode cL_law 856 = .ok (.ifCond .ne 15, 3) := by decide +kernel
theorem dL_law_859 : decode cL_law 859 = .ok (.aload_n 3, 1) := by decide +kernel
theorem dL_law_860 : decode cL_law 860 = .ok (.iconst 0, 1) := by decide +kernel
theorem dL_law_861 : decode cL_law 861 = .ok (.laload, 1) := by decide +kernel
theorem dL_law_862 : decode cL_law 862 = .ok (.iload 6, 2) := by decide +kernel
theorem dL_law_864 : decode cL_law 864 = .ok (.i2l, 1) := by decide +kernel
theorem dL_law_865 : decode cL_law 865 = .ok (.lcmp, 1) := by decide +kernel
theorem dL_law_866 : decode cL_law 866 = .ok (.ifCond .eq 5, 3) := by decide +kernel
theorem dL_law_869 : decode cL_law 869 = .ok (.iconst 0, 1) := by decide +kernel
theorem dL_law_870 : decode cL_law 870 = .ok (.ireturn, 1) := by decide +kernel
theorem dL_law_871 : decode cL_law 871 = .ok (.goto 616, 3) := by decide +kernel
theorem dL_law_874 : decode cL_law 874 = .ok (.aload_n 1, 1) := by decide +kernel
theorem dL_law_875 : decode cL_law 875 = .ok (.aload_n 0, 1) := by decide +kernel
theorem dL_law_876 : decode cL_law 876 = .ok (.iload 4, 2) := by decide +kernel
theorem dL_law_878 : decode cL_law 878 = .ok (.iconst 1, 1) := by decide +kernel
theorem dL_law_879 : decode cL_law 879 = .ok (.iadd, 1) := by decide +kernel
theorem dL_law_880 : decode cL_law 880 = .ok (.iaload, 1) := by decide +kernel
theorem dL_law_881 : decode cL_law 881 = .ok (.aload_n 0, 1) := by decide +kernel
theorem dL_law_882 : decode cL_law 882 = .ok (.iload 4, 2) := by decide +kernel
theorem dL_law_884 : decode cL_law 884 = .ok (.iconst 2, 1) := by decide +kernel
theorem dL_law_885 : decode cL_law 885 = .ok (.iadd, 1) := by decide +kernel
theorem dL_law_886 : decode cL_law 886 = .ok (.iaload, 1) := by decide +kernel
theorem dL_law_887 : decode cL_law 887 = .ok (.aload_n 0, 1) := by decide +kernel
theorem dL_law_888 : decode cL_law 888 = .ok (.iload 4, 2) := by decide +kernel
theorem dL_law_890 : decode cL_law 890 = .ok (.iconst 3, 1) := by decide +kernel
theorem dL_law_891 : decode cL_law 891 = .ok (.iadd, 1) := by decide +kernel
theorem dL_law_892 : decode cL_law 892 = .ok (.iaload, 1) := by decide +kernel
theorem dL_law_893 : decode cL_law 893 = .ok (.aload_n 0, 1) := by decide +kernel
theorem dL_law_894 : decode cL_law 894 = .ok (.iload 4, 2) := by decide +kernel
theorem dL_law_896 : decode cL_law 896 = .ok (.iconst 4, 1) := by decide +kernel
theorem dL_law_897 : decode cL_law 897 = .ok (.iadd, 1) := by decide +kernel
theorem dL_law_898 : decode cL_law 898 = .ok (.iaload, 1) := by decide +kernel
theorem dL_law_899 : decode cL_law 899 = .ok (.aload_n 3, 1) := by decide +kernel
theorem dL_law_900 : decode cL_law 900 = .ok (.invokestatic 116, 3) := by decide +kernel
theorem dL_law_903 : decode cL_law 903 = .ok (.istore 5, 2) := by decide +kernel
theorem dL_law_905 : decode cL_law 905 = .ok (.aload_n 2, 1) := by decide +kernel
theorem dL_law_906 : decode cL_law 906 = .ok (.aload_n 0, 1) := by decide +kernel
theorem dL_law_907 : decode cL_law 907 = .ok (.iload 4, 2) := by decide +kernel
theorem dL_law_909 : decode cL_law 909 = .ok (.iconst 1, 1) := by decide +kernel
theorem dL_law_910 : decode cL_law 910 = .ok (.iadd, 1) := by decide +kernel
theorem dL_law_911 : decode cL_law 911 = .ok (.iaload, 1) := by decide +kernel
theorem dL_law_912 : decode cL_law 912 = .ok (.aload_n 0, 1) := by decide +kernel
theorem dL_law_913 : decode cL_law 913 = .ok (.iload 4, 2) := by decide +kernel
theorem dL_law_915 : decode cL_law 915 = .ok (.iconst 2, 1) := by decide +kernel
theorem dL_law_916 : decode cL_law 916 = .ok (.iadd, 1) := by decide +kernel
theorem dL_law_917 : decode cL_law 917 = .ok (.iaload, 1) := by decide +kernel
theorem dL_law_918 : decode cL_law 918 = .ok (.aload_n 0, 1) := by decide +kernel
theorem dL_law_919 : decode cL_law 919 = .ok (.iload 4, 2) := by decide +kernel
theorem dL_law_921 : decode cL_law 921 = .ok (.iconst 3, 1) := by decide +kernel
theorem dL_law_922 : decode cL_law 922 = .ok (.iadd, 1) := by decide +kernel
theorem dL_law_923 : decode cL_law 923 = .ok (.iaload, 1) := by decide +kernel
theorem dL_law_924 : decode cL_law 924 = .ok (.aload_n 0, 1) := by decide +kernel
theorem dL_law_925 : decode cL_law 925 = .ok (.iload 4, 2) := by decide +kernel
theorem dL_law_927 : decode cL_law 927 = .ok (.iconst 4, 1) := by decide +kernel
theorem dL_law_928 : decode cL_law 928 = .ok (.iadd, 1) := by decide +kernel
theorem dL_law_929 : decode cL_law 929 = .ok (.iaload, 1) := by decide +kernel
theorem dL_law_930 : decode cL_law 930 = .ok (.invokevirtual 119, 3) := by decide +kernel
theorem dL_law_933 : decode cL_law 933 = .ok (.istore 6, 2) := by decide +kernel
theorem dL_law_935 : decode cL_law 935 = .ok (.aload_n 2, 1) := by decide +kernel
theorem dL_law_936 : decode cL_law 936 = .ok (.invokevirtual 83, 3) := by decide +kernel
theorem dL_law_939 : decode cL_law 939 = .ok (.iload 5, 2) := by decide +kernel
theorem dL_law_941 : decode cL_law 941 = .ok (.if_icmp .eq 5, 3) := by decide +kernel
theorem dL_law_944 : decode cL_law 944 = .ok (.iconst 0, 1) := by decide +kernel
theorem dL_law_945 : decode cL_law 945 = .ok (.ireturn, 1) := by decide +kernel
theorem dL_law_946 : decode cL_law 946 = .ok (.iload 5, 2) := by decide +kernel
theorem dL_law_948 : decode cL_law 948 = .ok (.ifCond .ne 15, 3) := by decide +kernel
theorem dL_law_951 : decode cL_law 951 = .ok (.aload_n 3, 1) := by decide +kernel
theorem dL_law_952 : decode cL_law 952 = .ok (.iconst 0, 1) := by decide +kernel
theorem dL_law_953 : decode cL_law 953 = .ok (.laload, 1) := by decide +kernel
theorem dL_law_954 : decode cL_law 954 = .ok (.iload 6, 2) := by decide +kernel
theorem dL_law_956 : decode cL_law 956 = .ok (.i2l, 1) := by decide +kernel
theorem dL_law_957 : decode cL_law 957 = .ok (.lcmp, 1) := by decide +kernel
theorem dL_law_958 : decode cL_law 958 = .ok (.ifCond .eq 5, 3) := by decide +kernel
theorem dL_law_961 : decode cL_law 961 = .ok (.iconst 0, 1) := by decide +kernel
theorem dL_law_962 : decode cL_law 962 = .ok (.ireturn, 1) := by decide +kernel
theorem dL_law_963 : decode cL_law 963 = .ok (.goto 524, 3) := by decide +kernel
theorem dL_law_966 : decode cL_law 966 = .ok (.aload_n 1, 1) := by decide +kernel
theorem dL_law_967 : decode cL_law 967 = .ok (.aload_n 0, 1) := by decide +kernel
theorem dL_law_968 : decode cL_law 968 = .ok (.iload 4, 2) := by decide +kernel
theorem dL_law_970 : decode cL_law 970 = .ok (.iconst 1, 1) := by decide +kernel
theorem dL_law_971 : decode cL_law 971 = .ok (.iadd, 1) := by decide +kernel
theorem dL_law_972 : decode cL_law 972 = .ok (.iaload, 1) := by decide +kernel
theorem dL_law_973 : decode cL_law 973 = .ok (.aload_n 0, 1) := by decide +kernel
theorem dL_law_974 : decode cL_law 974 = .ok (.iload 4, 2) := by decide +kernel
theorem dL_law_976 : decode cL_law 976 = .ok (.iconst 2, 1) := by decide +kernel
theorem dL_law_977 : decode cL_law 977 = .ok (.iadd, 1) := by decide +kernel
theorem dL_law_978 : decode cL_law 978 = .ok (.iaload, 1) := by decide +kernel
theorem dL_law_979 : decode cL_law 979 = .ok (.aload_n 3, 1) := by decide +kernel
theorem dL_law_980 : decode cL_law 980 = .ok (.invokestatic 120, 3) := by decide +kernel
theorem dL_law_983 : decode cL_law 983 = .ok (.istore 5, 2) := by decide +kernel
theorem dL_law_985 : decode cL_law 985 = .ok (.aload_n 2, 1) := by decide +kernel
theorem dL_law_986 : decode cL_law 986 = .ok (.aload_n 0, 1) := by decide +kernel
theorem dL_law_987 : decode cL_law 987 = .ok (.iload 4, 2) := by decide +kernel
theorem dL_law_989 : decode cL_law 989 = .ok (.iconst 1, 1) := by decide +kernel
theorem dL_law_990 : decode cL_law 990 = .ok (.iadd, 1) := by decide +kernel
theorem dL_law_991 : decode cL_law 991 = .ok (.iaload, 1) := by decide +kernel
theorem dL_law_992 : decode cL_law 992 = .ok (.aload_n 0, 1) := by decide +kernel
theorem dL_law_993 : decode cL_law 993 = .ok (.iload 4, 2) := by decide +kernel
theorem dL_law_995 : decode cL_law 995 = .ok (.iconst 2, 1) := by decide +kernel
theorem dL_law_996 : decode cL_law 996 = .ok (.iadd, 1) := by decide +kernel
theorem dL_law_997 : decode cL_law 997 = .ok (.iaload, 1) := by decide +kernel
theorem dL_law_998 : decode cL_law 998 = .ok (.invokevirtual 122, 3) := by decide +kernel
theorem dL_law_1001 : decode cL_law 1001 = .ok (.istore 6, 2) := by decide +kernel
theorem dL_law_1003 : decode cL_law 1003 = .ok (.aload_n 2, 1) := by decide +kernel
theorem dL_law_1004 : decode cL_law 1004 = .ok (.invokevirtual 83, 3) := by decide +kernel
theorem dL_law_1007 : decode cL_law 1007 = .ok (.iload 5, 2) := by decide +kernel
theorem dL_law_1009 : decode cL_law 1009 = .ok (.if_icmp .eq 5, 3) := by decide +kernel
theorem dL_law_1012 : decode cL_law 1012 = .ok (.iconst 0, 1) := by decide +kernel
theorem dL_law_1013 : decode cL_law 1013 = .ok (.ireturn, 1) := by decide +kernel
theorem dL_law_1014 : decode cL_law 1014 = .ok (.iload 5, 2) := by decide +kernel
theorem dL_law_1016 : decode cL_law 1016 = .ok (.ifCond .ne 15, 3) := by decide +kernel
theorem dL_law_1019 : decode cL_law 1019 = .ok (.aload_n 3, 1) := by decide +kernel
theorem dL_law_1020 : decode cL_law 1020 = .ok (.iconst 0, 1) := by decide +kernel
theorem dL_law_1021 : decode cL_law 1021 = .ok (.laload, 1) := by decide +kernel
theorem dL_law_1022 : decode cL_law 1022 = .ok (.iload 6, 2) := by decide +kernel
theorem dL_law_1024 : decode cL_law 1024 = .ok (.i2l, 1) := by decide +kernel
theorem dL_law_1025 : decode cL_law 1025 = .ok (.lcmp, 1) := by decide +kernel
theorem dL_law_1026 : decode cL_law 1026 = .ok (.ifCond .eq 5, 3) := by decide +kernel
theorem dL_law_1029 : decode cL_law 1029 = .ok (.iconst 0, 1) := by decide +kernel
theorem dL_law_1030 : decode cL_law 1030 = .ok (.ireturn, 1) := by decide +kernel
theorem dL_law_1031 : decode cL_law 1031 = .ok (.goto 456, 3) := by decide +kernel
theorem dL_law_1034 : decode cL_law 1034 = .ok (.aload_n 1, 1) := by decide +kernel
theorem dL_law_1035 : decode cL_law 1035 = .ok (.aload_n 0, 1) := by decide +kernel
theorem dL_law_1036 : decode cL_law 1036 = .ok (.iload 4, 2) := by decide +kernel
theorem dL_law_1038 : decode cL_law 1038 = .ok (.iconst 1, 1) := by decide +kernel
theorem dL_law_1039 : decode cL_law 1039 = .ok (.iadd, 1) := by decide +kernel
theorem dL_law_1040 : decode cL_law 1040 = .ok (.iaload, 1) := by decide +kernel
theorem dL_law_1041 : decode cL_law 1041 = .ok (.aload_n 0, 1) := by decide +kernel
theorem dL_law_1042 : decode cL_law 1042 = .ok (.iload 4, 2) := by decide +kernel
theorem dL_law_1044 : decode cL_law 1044 = .ok (.iconst 2, 1) := by decide +kernel
theorem dL_law_1045 : decode cL_law 1045 = .ok (.iadd, 1) := by decide +kernel
theorem dL_law_1046 : decode cL_law 1046 = .ok (.iaload, 1) := by decide +kernel
theorem dL_law_1047 : decode cL_law 1047 = .ok (.aload_n 0, 1) := by decide +kernel
theorem dL_law_1048 : decode cL_law 1048 = .ok (.iload 4, 2) := by decide +kernel
theorem dL_law_1050 : decode cL_law 1050 = .ok (.iconst 3, 1) := by decide +kernel
theorem dL_law_1051 : decode cL_law 1051 = .ok (.iadd, 1) := by decide +kernel
theorem dL_law_1052 : decode cL_law 1052 = .ok (.iaload, 1) := by decide +kernel
theorem dL_law_1053 : decode cL_law 1053 = .ok (.aload_n 3, 1) := by decide +kernel
theorem dL_law_1054 : decode cL_law 1054 = .ok (.invokestatic 123, 3) := by decide +kernel
theorem dL_law_1057 : decode cL_law 1057 = .ok (.istore 5, 2) := by decide +kernel
theorem dL_law_1059 : decode cL_law 1059 = .ok (.aload_n 2, 1) := by decide +kernel
theorem dL_law_1060 : decode cL_law 1060 = .ok (.aload_n 0, 1) := by decide +kernel
theorem dL_law_1061 : decode cL_law 1061 = .ok (.iload 4, 2) := by decide +kernel
theorem dL_law_1063 : decode cL_law 1063 = .ok (.iconst 1, 1) := by decide +kernel
theorem dL_law_1064 : decode cL_law 1064 = .ok (.iadd, 1) := by decide +kernel
theorem dL_law_1065 : decode cL_law 1065 = .ok (.iaload, 1) := by decide +kernel
theorem dL_law_1066 : decode cL_law 1066 = .ok (.aload_n 0, 1) := by decide +kernel
theorem dL_law_1067 : decode cL_law 1067 = .ok (.iload 4, 2) := by decide +kernel
theorem dL_law_1069 : decode cL_law 1069 = .ok (.iconst 2, 1) := by decide +kernel
theorem dL_law_1070 : decode cL_law 1070 = .ok (.iadd, 1) := by decide +kernel
theorem dL_law_1071 : decode cL_law 1071 = .ok (.iaload, 1) := by decide +kernel
theorem dL_law_1072 : decode cL_law 1072 = .ok (.aload_n 0, 1) := by decide +kernel
theorem dL_law_1073 : decode cL_law 1073 = .ok (.iload 4, 2) := by decide +kernel
theorem dL_law_1075 : decode cL_law 1075 = .ok (.iconst 3, 1) := by decide +kernel
theorem dL_law_1076 : decode cL_law 1076 = .ok (.iadd, 1) := by decide +kernel
theorem dL_law_1077 : decode cL_law 1077 = .ok (.iaload, 1) := by decide +kernel
theorem dL_law_1078 : decode cL_law 1078 = .ok (.invokevirtual 125, 3) := by decide +kernel
theorem dL_law_1081 : decode cL_law 1081 = .ok (.istore 6, 2) := by decide +kernel
theorem dL_law_1083 : decode cL_law 1083 = .ok (.aload_n 2, 1) := by decide +kernel
theorem dL_law_1084 : decode cL_law 1084 = .ok (.invokevirtual 83, 3) := by decide +kernel
theorem dL_law_1087 : decode cL_law 1087 = .ok (.iload 5, 2) := by decide +kernel
theorem dL_law_1089 : decode cL_law 1089 = .ok (.if_icmp .eq 5, 3) := by decide +kernel
theorem dL_law_1092 : decode cL_law 1092 = .ok (.iconst 0, 1) := by decide +kernel
theorem dL_law_1093 : decode cL_law 1093 = .ok (.ireturn, 1) := by decide +kernel
theorem dL_law_1094 : decode cL_law 1094 = .ok (.iload 5, 2) := by decide +kernel
theorem dL_law_1096 : decode cL_law 1096 = .ok (.ifCond .ne 15, 3) := by decide +kernel
theorem dL_law_1099 : decode cL_law 1099 = .ok (.aload_n 3, 1) := by decide +kernel
theorem dL_law_1100 : decode cL_law 1100 = .ok (.iconst 0, 1) := by decide +kernel
theorem dL_law_1101 : decode cL_law 1101 = .ok (.laload, 1) := by decide +kernel
theorem dL_law_1102 : decode cL_law 1102 = .ok (.iload 6, 2) := by decide +kernel
theorem dL_law_1104 : decode cL_law 1104 = .ok (.i2l, 1) := by decide +kernel
theorem dL_law_1105 : decode cL_law 1105 = .ok (.lcmp, 1) := by decide +kernel
theorem dL_law_1106 : decode cL_law 1106 = .ok (.ifCond .eq 5, 3) := by decide +kernel
theorem dL_law_1109 : decode cL_law 1109 = .ok (.iconst 0, 1) := by decide +kernel
theorem dL_law_1110 : decode cL_law 1110 = .ok (.ireturn, 1) := by decide +kernel
theorem dL_law_1111 : decode cL_law 1111 = .ok (.goto 376, 3) := by decide +kernel
theorem dL_law_1114 : decode cL_law 1114 = .ok (.aload_n 1, 1) := by decide +kernel
theorem dL_law_1115 : decode cL_law 1115 = .ok (.aload_n 0, 1) := by decide +kernel
theorem dL_law_1116 : decode cL_law 1116 = .ok (.iload 4, 2) := by decide +kernel
theorem dL_law_1118 : decode cL_law 1118 = .ok (.iconst 1, 1) := by decide +kernel
theorem dL_law_1119 : decode cL_law 1119 = .ok (.iadd, 1) := by decide +kernel
theorem dL_law_1120 : decode cL_law 1120 = .ok (.iaload, 1) := by decide +kernel
theorem dL_law_1121 : decode cL_law 1121 = .ok (.aload_n 3, 1) := by decide +kernel
theorem dL_law_1122 : decode cL_law 1122 = .ok (.invokestatic 126, 3) := by decide +kernel
theorem dL_law_1125 : decode cL_law 1125 = .ok (.istore 5, 2) := by decide +kernel
theorem dL_law_1127 : decode cL_law 1127 = .ok (.aload_n 2, 1) := by decide +kernel
theorem dL_law_1128 : decode cL_law 1128 = .ok (.aload_n 0, 1) := by decide +kernel
theorem dL_law_1129 : decode cL_law 1129 = .ok (.iload 4, 2) := by decide +kernel
theorem dL_law_1131 : decode cL_law 1131 = .ok (.iconst 1, 1) := by decide +kernel
theorem dL_law_1132 : decode cL_law 1132 = .ok (.iadd, 1) := by decide +kernel
theorem dL_law_1133 : decode cL_law 1133 = .ok (.iaload, 1) := by decide +kernel
theorem dL_law_1134 : decode cL_law 1134 = .ok (.invokevirtual 128, 3) := by decide +kernel
theorem dL_law_1137 : decode cL_law 1137 = .ok (.istore 6, 2) := by decide +kernel
theorem dL_law_1139 : decode cL_law 1139 = .ok (.aload_n 2, 1) := by decide +kernel
theorem dL_law_1140 : decode cL_law 1140 = .ok (.invokevirtual 83, 3) := by decide +kernel
theorem dL_law_1143 : decode cL_law 1143 = .ok (.iload 5, 2) := by decide +kernel
theorem dL_law_1145 : decode cL_law 1145 = .ok (.if_icmp .eq 5, 3) := by decide +kernel
theorem dL_law_1148 : decode cL_law 1148 = .ok (.iconst 0, 1) := by decide +kernel
theorem dL_law_1149 : decode cL_law 1149 = .ok (.ireturn, 1) := by decide +kernel
theorem dL_law_1150 : decode cL_law 1150 = .ok (.iload 5, 2) := by decide +kernel
theorem dL_law_1152 : decode cL_law 1152 = .ok (.ifCond .ne 15, 3) := by decide +kernel
theorem dL_law_1155 : decode cL_law 1155 = .ok (.aload_n 3, 1) := by decide +kernel
theorem dL_law_1156 : decode cL_law 1156 = .ok (.iconst 0, 1) := by decide +kernel
theorem dL_law_1157 : decode cL_law 1157 = .ok (.laload, 1) := by decide +kernel
theorem dL_law_1158 : decode cL_law 1158 = .ok (.iload 6, 2) := by decide +kernel
theorem dL_law_1160 : decode cL_law 1160 = .ok (.i2l, 1) := by decide +kernel
theorem dL_law_1161 : decode cL_law 1161 = .ok (.lcmp, 1) := by decide +kernel
theorem dL_law_1162 : decode cL_law 1162 = .ok (.ifCond .eq 5, 3) := by decide +kernel
theorem dL_law_1165 : decode cL_law 1165 = .ok (.iconst 0, 1) := by decide +kernel
theorem dL_law_1166 : decode cL_law 1166 = .ok (.ireturn, 1) := by decide +kernel
theorem dL_law_1167 : decode cL_law 1167 = .ok (.goto 320, 3) := by decide +kernel
theorem dL_law_1170 : decode cL_law 1170 = .ok (.aload_n 1, 1) := by decide +kernel
theorem dL_law_1171 : decode cL_law 1171 = .ok (.aload_n 0, 1) := by decide +kernel
theorem dL_law_1172 : decode cL_law 1172 = .ok (.iload 4, 2) := by decide +kernel
theorem dL_law_1174 : decode cL_law 1174 = .ok (.iconst 1, 1) := by decide +kernel
theorem dL_law_1175 : decode cL_law 1175 = .ok (.iadd, 1) := by decide +kernel
theorem dL_law_1176 : decode cL_law 1176 = .ok (.iaload, 1) := by decide +kernel
theorem dL_law_1177 : decode cL_law 1177 = .ok (.aload_n 3, 1) := by decide +kernel
theorem dL_law_1178 : decode cL_law 1178 = .ok (.invokestatic 129, 3) := by decide +kernel
theorem dL_law_1181 : decode cL_law 1181 = .ok (.istore 5, 2) := by decide +kernel
theorem dL_law_1183 : decode cL_law 1183 = .ok (.aload_n 2, 1) := by decide +kernel
theorem dL_law_1184 : decode cL_law 1184 = .ok (.aload_n 0, 1) := by decide +kernel
theorem dL_law_1185 : decode cL_law 1185 = .ok (.iload 4, 2) := by decide +kernel
theorem dL_law_1187 : decode cL_law 1187 = .ok (.iconst 1, 1) := by decide +kernel
theorem dL_law_1188 : decode cL_law 1188 = .ok (.iadd, 1) := by decide +kernel
theorem dL_law_1189 : decode cL_law 1189 = .ok (.iaload, 1) := by decide +kernel
theorem dL_law_1190 : decode cL_law 1190 = .ok (.invokevirtual 131, 3) := by decide +kernel
theorem dL_law_1193 : decode cL_law 1193 = .ok (.istore 6, 2) := by decide +kernel
theorem dL_law_1195 : decode cL_law 1195 = .ok (.aload_n 2, 1) := by decide +kernel
theorem dL_law_1196 : decode cL_law 1196 = .ok (.invokevirtual 83, 3) := by decide +kernel
theorem dL_law_1199 : decode cL_law 1199 = .ok (.iload 5, 2) := by decide +kernel
theorem dL_law_1201 : decode cL_law 1201 = .ok (.if_icmp .eq 5, 3) := by decide +kernel
theorem dL_law_1204 : decode cL_law 1204 = .ok (.iconst 0, 1) := by decide +kernel
theorem dL_law_1205 : decode cL_law 1205 = .ok (.ireturn, 1) := by decide +kernel
theorem dL_law_1206 : decode cL_law 1206 = .ok (.iload 5, 2) := by decide +kernel
theorem dL_law_1208 : decode cL_law 1208 = .ok (.ifCond .ne 15, 3) := by decide +kernel
theorem dL_law_1211 : decode cL_law 1211 = .ok (.aload_n 3, 1) := by decide +kernel
theorem dL_law_1212 : decode cL_law 1212 = .ok (.iconst 0, 1) := by decide +kernel
theorem dL_law_1213 : decode cL_law 1213 = .ok (.laload, 1) := by decide +kernel
theorem dL_law_1214 : decode cL_law 1214 = .ok (.iload 6, 2) := by decide +kernel
theorem dL_law_1216 : decode cL_law 1216 = .ok (.i2l, 1) := by decide +kernel
theorem dL_law_1217 : decode cL_law 1217 = .ok (.lcmp, 1) := by decide +kernel
theorem dL_law_1218 : decode cL_law 1218 = .ok (.ifCond .eq 5, 3) := by decide +kernel
theorem dL_law_1221 : decode cL_law 1221 = .ok (.iconst 0, 1) := by decide +kernel
theorem dL_law_1222 : decode cL_law 1222 = .ok (.ireturn, 1) := by decide +kernel
theorem dL_law_1223 : decode cL_law 1223 = .ok (.goto 264, 3) := by decide +kernel
theorem dL_law_1226 : decode cL_law 1226 = .ok (.aload_n 1, 1) := by decide +kernel
theorem dL_law_1227 : decode cL_law 1227 = .ok (.aload_n 0, 1) := by decide +kernel
theorem dL_law_1228 : decode cL_law 1228 = .ok (.iload 4, 2) := by decide +kernel
theorem dL_law_1230 : decode cL_law 1230 = .ok (.iconst 1, 1) := by decide +kernel
theorem dL_law_1231 : decode cL_law 1231 = .ok (.iadd, 1) := by decide +kernel
theorem dL_law_1232 : decode cL_law 1232 = .ok (.iaload, 1) := by decide +kernel
theorem dL_law_1233 : decode cL_law 1233 = .ok (.aload_n 0, 1) := by decide +kernel
theorem dL_law_1234 : decode cL_law 1234 = .ok (.iload 4, 2) := by decide +kernel
theorem dL_law_1236 : decode cL_law 1236 = .ok (.iconst 2, 1) := by decide +kernel
theorem dL_law_1237 : decode cL_law 1237 = .ok (.iadd, 1) := by decide +kernel
theorem dL_law_1238 : decode cL_law 1238 = .ok (.iaload, 1) := by decide +kernel
theorem dL_law_1239 : decode cL_law 1239 = .ok (.aload_n 3, 1) := by decide +kernel
theorem dL_law_1240 : decode cL_law 1240 = .ok (.invokestatic 132, 3) := by decide +kernel
theorem dL_law_1243 : decode cL_law 1243 = .ok (.istore 5, 2) := by decide +kernel
theorem dL_law_1245 : decode cL_law 1245 = .ok (.aload_n 2, 1) := by decide +kernel
theorem dL_law_1246 : decode cL_law 1246 = .ok (.aload_n 0, 1) := by decide +kernel
theorem dL_law_1247 : decode cL_law 1247 = .ok (.iload 4, 2) := by decide +kernel
theorem dL_law_1249 : decode cL_law 1249 = .ok (.iconst 1, 1) := by decide +kernel
theorem dL_law_1250 : decode cL_law 1250 = .ok (.iadd, 1) := by decide +kernel
theorem dL_law_1251 : decode cL_law 1251 = .ok (.iaload, 1) := by decide +kernel
theorem dL_law_1252 : decode cL_law 1252 = .ok (.aload_n 0, 1) := by decide +kernel
theorem dL_law_1253 : decode cL_law 1253 = .ok (.iload 4, 2) := by decide +kernel
theorem dL_law_1255 : decode cL_law 1255 = .ok (.iconst 2, 1) := by decide +kernel
theorem dL_law_1256 : decode cL_law 1256 = .ok (.iadd, 1) := by decide +kernel
theorem dL_law_1257 : decode cL_law 1257 = .ok (.iaload, 1) := by decide +kernel
theorem dL_law_1258 : decode cL_law 1258 = .ok (.invokevirtual 134, 3) := by decide +kernel
theorem dL_law_1261 : decode cL_law 1261 = .ok (.istore 6, 2) := by decide +kernel
theorem dL_law_1263 : decode cL_law 1263 = .ok (.aload_n 2, 1) := by decide +kernel
theorem dL_law_1264 : decode cL_law 1264 = .ok (.invokevirtual 83, 3) := by decide +kernel
theorem dL_law_1267 : decode cL_law 1267 = .ok (.iload 5, 2) := by decide +kernel
theorem dL_law_1269 : decode cL_law 1269 = .ok (.if_icmp .eq 5, 3) := by decide +kernel
theorem dL_law_1272 : decode cL_law 1272 = .ok (.iconst 0, 1) := by decide +kernel
theorem dL_law_1273 : decode cL_law 1273 = .ok (.ireturn, 1) := by decide +kernel
theorem dL_law_1274 : decode cL_law 1274 = .ok (.iload 5, 2) := by decide +kernel
theorem dL_law_1276 : decode cL_law 1276 = .ok (.ifCond .ne 15, 3) := by decide +kernel
theorem dL_law_1279 : decode cL_law 1279 = .ok (.aload_n 3, 1) := by decide +kernel
theorem dL_law_1280 : decode cL_law 1280 = .ok (.iconst 0, 1) := by decide +kernel
theorem dL_law_1281 : decode cL_law 1281 = .ok (.laload, 1) := by decide +kernel
theorem dL_law_1282 : decode cL_law 1282 = .ok (.iload 6, 2) := by decide +kernel
theorem dL_law_1284 : decode cL_law 1284 = .ok (.i2l, 1) := by decide +kernel
theorem dL_law_1285 : decode cL_law 1285 = .ok (.lcmp, 1) := by decide +kernel
theorem dL_law_1286 : decode cL_law 1286 = .ok (.ifCond .eq 5, 3) := by decide +kernel
theorem dL_law_1289 : decode cL_law 1289 = .ok (.iconst 0, 1) := by decide +kernel
theorem dL_law_1290 : decode cL_law 1290 = .ok (.ireturn, 1) := by decide +kernel
theorem dL_law_1291 : decode cL_law 1291 = .ok (.goto 196, 3) := by decide +kernel
theorem dL_law_1294 : decode cL_law 1294 = .ok (.aload_n 1, 1) := by decide +kernel
theorem dL_law_1295 : decode cL_law 1295 = .ok (.aload_n 0, 1) := by decide +kernel
theorem dL_law_1296 : decode cL_law 1296 = .ok (.iload 4, 2) := by decide +kernel
theorem dL_law_1298 : decode cL_law 1298 = .ok (.iconst 1, 1) := by decide +kernel
theorem dL_law_1299 : decode cL_law 1299 = .ok (.iadd, 1) := by decide +kernel
theorem dL_law_1300 : decode cL_law 1300 = .ok (.iaload, 1) := by decide +kernel
theorem dL_law_1301 : decode cL_law 1301 = .ok (.aload_n 3, 1) := by decide +kernel
theorem dL_law_1302 : decode cL_law 1302 = .ok (.invokestatic 135, 3) := by decide +kernel
theorem dL_law_1305 : decode cL_law 1305 = .ok (.istore 5, 2) := by decide +kernel
theorem dL_law_1307 : decode cL_law 1307 = .ok (.aload_n 2, 1) := by decide +kernel
theorem dL_law_1308 : decode cL_law 1308 = .ok (.aload_n 0, 1) := by decide +kernel
theorem dL_law_1309 : decode cL_law 1309 = .ok (.iload 4, 2) := by decide +kernel
theorem dL_law_1311 : decode cL_law 1311 = .ok (.iconst 1, 1) := by decide +kernel
theorem dL_law_1312 : decode cL_law 1312 = .ok (.iadd, 1) := by decide +kernel
theorem dL_law_1313 : decode cL_law 1313 = .ok (.iaload, 1) := by decide +kernel
theorem dL_law_1314 : decode cL_law 1314 = .ok (.invokevirtual 137, 3) := by decide +kernel
theorem dL_law_1317 : decode cL_law 1317 = .ok (.istore 6, 2) := by decide +kernel
theorem dL_law_1319 : decode cL_law 1319 = .ok (.aload_n 2, 1) := by decide +kernel
theorem dL_law_1320 : decode cL_law 1320 = .ok (.invokevirtual 83, 3) := by decide +kernel
theorem dL_law_1323 : decode cL_law 1323 = .ok (.iload 5, 2) := by decide +kernel
theorem dL_law_1325 : decode cL_law 1325 = .ok (.if_icmp .eq 5, 3) := by decide +kernel
theorem dL_law_1328 : decode cL_law 1328 = .ok (.iconst 0, 1) := by decide +kernel
theorem dL_law_1329 : decode cL_law 1329 = .ok (.ireturn, 1) := by decide +kernel
theorem dL_law_1330 : decode cL_law 1330 = .ok (.iload 5, 2) := by decide +kernel
theorem dL_law_1332 : decode cL_law 1332 = .ok (.ifCond .ne 15, 3) := by decide +kernel
theorem dL_law_1335 : decode cL_law 1335 = .ok (.aload_n 3, 1) := by decide +kernel
theorem dL_law_1336 : decode cL_law 1336 = .ok (.iconst 0, 1) := by decide +kernel
theorem dL_law_1337 : decode cL_law 1337 = .ok (.laload, 1) := by decide +kernel
theorem dL_law_1338 : decode cL_law 1338 = .ok (.iload 6, 2) := by decide +kernel
theorem dL_law_1340 : decode cL_law 1340 = .ok (.i2l, 1) := by decide +kernel
theorem dL_law_1341 : decode cL_law 1341 = .ok (.lcmp, 1) := by decide +kernel
theorem dL_law_1342 : decode cL_law 1342 = .ok (.ifCond .eq 5, 3) := by decide +kernel
theorem dL_law_1345 : decode cL_law 1345 = .ok (.iconst 0, 1) := by decide +kernel
theorem dL_law_1346 : decode cL_law 1346 = .ok (.ireturn, 1) := by decide +kernel
theorem dL_law_1347 : decode cL_law 1347 = .ok (.goto 140, 3) := by decide +kernel
theorem dL_law_1350 : decode cL_law 1350 = .ok (.aload_n 1, 1) := by decide +kernel
theorem dL_law_1351 : decode cL_law 1351 = .ok (.invokevirtual 138, 3) := by decide +kernel
theorem dL_law_1354 : decode cL_law 1354 = .ok (.aload_n 2, 1) := by decide +kernel
theorem dL_law_1355 : decode cL_law 1355 = .ok (.invokevirtual 141, 3) := by decide +kernel
theorem dL_law_1358 : decode cL_law 1358 = .ok (.if_icmp .eq 129, 3) := by decide +kernel
theorem dL_law_1361 : decode cL_law 1361 = .ok (.iconst 0, 1) := by decide +kernel
theorem dL_law_1362 : decode cL_law 1362 = .ok (.ireturn, 1) := by decide +kernel
theorem dL_law_1363 : decode cL_law 1363 = .ok (.aload_n 1, 1) := by decide +kernel
theorem dL_law_1364 : decode cL_law 1364 = .ok (.invokevirtual 142, 3) := by decide +kernel
theorem dL_law_1367 : decode cL_law 1367 = .ok (.aload_n 2, 1) := by decide +kernel
theorem dL_law_1368 : decode cL_law 1368 = .ok (.invokevirtual 145, 3) := by decide +kernel
theorem dL_law_1371 : decode cL_law 1371 = .ok (.if_icmp .eq 116, 3) := by decide +kernel
theorem dL_law_1374 : decode cL_law 1374 = .ok (.iconst 0, 1) := by decide +kernel
theorem dL_law_1375 : decode cL_law 1375 = .ok (.ireturn, 1) := by decide +kernel
theorem dL_law_1376 : decode cL_law 1376 = .ok (.aload_n 1, 1) := by decide +kernel
theorem dL_law_1377 : decode cL_law 1377 = .ok (.aload_n 0, 1) := by decide +kernel
theorem dL_law_1378 : decode cL_law 1378 = .ok (.iload 4, 2) := by decide +kernel
theorem dL_law_1380 : decode cL_law 1380 = .ok (.iconst 1, 1) := by decide +kernel
theorem dL_law_1381 : decode cL_law 1381 = .ok (.iadd, 1) := by decide +kernel
theorem dL_law_1382 : decode cL_law 1382 = .ok (.iaload, 1) := by decide +kernel
theorem dL_law_1383 : decode cL_law 1383 = .ok (.aload_n 3, 1) := by decide +kernel
theorem dL_law_1384 : decode cL_law 1384 = .ok (.invokestatic 146, 3) := by decide +kernel
theorem dL_law_1387 : decode cL_law 1387 = .ok (.istore 5, 2) := by decide +kernel
theorem dL_law_1389 : decode cL_law 1389 = .ok (.aload_n 2, 1) := by decide +kernel
theorem dL_law_1390 : decode cL_law 1390 = .ok (.aload_n 0, 1) := by decide +kernel
theorem dL_law_1391 : decode cL_law 1391 = .ok (.iload 4, 2) := by decide +kernel
theorem dL_law_1393 : decode cL_law 1393 = .ok (.iconst 1, 1) := by decide +kernel
theorem dL_law_1394 : decode cL_law 1394 = .ok (.iadd, 1) := by decide +kernel
theorem dL_law_1395 : decode cL_law 1395 = .ok (.iaload, 1) := by decide +kernel
theorem dL_law_1396 : decode cL_law 1396 = .ok (.invokevirtual 148, 3) := by decide +kernel
theorem dL_law_1399 : decode cL_law 1399 = .ok (.istore 6, 2) := by decide +kernel
theorem dL_law_1401 : decode cL_law 1401 = .ok (.aload_n 2, 1) := by decide +kernel
theorem dL_law_1402 : decode cL_law 1402 = .ok (.invokevirtual 83, 3) := by decide +kernel
theorem dL_law_1405 : decode cL_law 1405 = .ok (.iload 5, 2) := by decide +kernel
theorem dL_law_1407 : decode cL_law 1407 = .ok (.if_icmp .eq 5, 3) := by decide +kernel
theorem dL_law_1410 : decode cL_law 1410 = .ok (.iconst 0, 1) := by decide +kernel
theorem dL_law_1411 : decode cL_law 1411 = .ok (.ireturn, 1) := by decide +kernel
theorem dL_law_1412 : decode cL_law 1412 = .ok (.iload 5, 2) := by decide +kernel
theorem dL_law_1414 : decode cL_law 1414 = .ok (.ifCond .ne 15, 3) := by decide +kernel
theorem dL_law_1417 : decode cL_law 1417 = .ok (.aload_n 3, 1) := by decide +kernel
theorem dL_law_1418 : decode cL_law 1418 = .ok (.iconst 0, 1) := by decide +kernel
theorem dL_law_1419 : decode cL_law 1419 = .ok (.laload, 1) := by decide +kernel
theorem dL_law_1420 : decode cL_law 1420 = .ok (.iload 6, 2) := by decide +kernel
theorem dL_law_1422 : decode cL_law 1422 = .ok (.i2l, 1) := by decide +kernel
theorem dL_law_1423 : decode cL_law 1423 = .ok (.lcmp, 1) := by decide +kernel
theorem dL_law_1424 : decode cL_law 1424 = .ok (.ifCond .eq 5, 3) := by decide +kernel
theorem dL_law_1427 : decode cL_law 1427 = .ok (.iconst 0, 1) := by decide +kernel
theorem dL_law_1428 : decode cL_law 1428 = .ok (.ireturn, 1) := by decide +kernel
theorem dL_law_1429 : decode cL_law 1429 = .ok (.goto 58, 3) := by decide +kernel
theorem dL_law_1432 : decode cL_law 1432 = .ok (.aload_n 1, 1) := by decide +kernel
theorem dL_law_1433 : decode cL_law 1433 = .ok (.invokevirtual 149, 3) := by decide +kernel
theorem dL_law_1436 : decode cL_law 1436 = .ok (.dstore 5, 2) := by decide +kernel
theorem dL_law_1438 : decode cL_law 1438 = .ok (.aload_n 2, 1) := by decide +kernel
theorem dL_law_1439 : decode cL_law 1439 = .ok (.invokevirtual 153, 3) := by decide +kernel
theorem dL_law_1442 : decode cL_law 1442 = .ok (.dstore 7, 2) := by decide +kernel
theorem dL_law_1444 : decode cL_law 1444 = .ok (.dload 5, 2) := by decide +kernel
theorem dL_law_1446 : decode cL_law 1446 = .ok (.dload 7, 2) := by decide +kernel
theorem dL_law_1448 : decode cL_law 1448 = .ok (.dcmp .l, 1) := by decide +kernel
theorem dL_law_1449 : decode cL_law 1449 = .ok (.ifCond .eq 21, 3) := by decide +kernel
theorem dL_law_1452 : decode cL_law 1452 = .ok (.dload 5, 2) := by decide +kernel
theorem dL_law_1454 : decode cL_law 1454 = .ok (.dload 5, 2) := by decide +kernel
theorem dL_law_1456 : decode cL_law 1456 = .ok (.dcmp .l, 1) := by decide +kernel
theorem dL_law_1457 : decode cL_law 1457 = .ok (.ifCond .eq 11, 3) := by decide +kernel
theorem dL_law_1460 : decode cL_law 1460 = .ok (.dload 7, 2) := by decide +kernel
theorem dL_law_1462 : decode cL_law 1462 = .ok (.dload 7, 2) := by decide +kernel
theorem dL_law_1464 : decode cL_law 1464 = .ok (.dcmp .l, 1) := by decide +kernel
theorem dL_law_1465 : decode cL_law 1465 = .ok (.ifCond .ne 5, 3) := by decide +kernel
theorem dL_law_1468 : decode cL_law 1468 = .ok (.iconst 0, 1) := by decide +kernel
theorem dL_law_1469 : decode cL_law 1469 = .ok (.ireturn, 1) := by decide +kernel
theorem dL_law_1470 : decode cL_law 1470 = .ok (.goto 17, 3) := by decide +kernel
theorem dL_law_1473 : decode cL_law 1473 = .ok (.aload_n 1, 1) := by decide +kernel
theorem dL_law_1474 : decode cL_law 1474 = .ok (.invokevirtual 154, 3) := by decide +kernel
theorem dL_law_1477 : decode cL_law 1477 = .ok (.aload_n 2, 1) := by decide +kernel
theorem dL_law_1478 : decode cL_law 1478 = .ok (.invokevirtual 158, 3) := by decide +kernel
theorem dL_law_1481 : decode cL_law 1481 = .ok (.lcmp, 1) := by decide +kernel
theorem dL_law_1482 : decode cL_law 1482 = .ok (.ifCond .eq 5, 3) := by decide +kernel
theorem dL_law_1485 : decode cL_law 1485 = .ok (.iconst 0, 1) := by decide +kernel
theorem dL_law_1486 : decode cL_law 1486 = .ok (.ireturn, 1) := by decide +kernel
theorem dL_law_1487 : decode cL_law 1487 = .ok (.iinc 4 6, 3) := by decide +kernel
theorem dL_law_1490 : decode cL_law 1490 = .ok (.goto (-1467), 3) := by decide +kernel
theorem dL_law_1493 : decode cL_law 1493 = .ok (.iconst 1, 1) := by decide +kernel
theorem dL_law_1494 : decode cL_law 1494 = .ok (.ireturn, 1) := by decide +kernel
end
section
/-! the words of the tables, each by its place -/
noncomputable def wB : List Cond := lw_tbl.filter goodWord
theorem wB_good : GoodIn wB wB := fun w h => ⟨h, good_of_word (List.mem_filter.mp h).2⟩
theorem wIn {w : Cond} (i : Nat) (h : lw_tbl[i]? = some w) (hg : goodWord w = true) : w ∈ wB := List.mem_filter.mpr ⟨List.mem_of_getElem? h, hg⟩
theorem wB_tbl : ∀ w ∈ wB, w ∈ lw_tbl := fun _ h => (List.mem_filter.mp h).1
theorem wSE_X4_X4_heldByAll : Cond.selects RX4 yX4_heldByAll yX4_heldByAll ∈ wB := wIn 0 (by decide +kernel) rfl
theorem wSE_X4_X4_springAt : Cond.selects RX4 yX4_springAt yX4_springAt ∈ wB := wIn 2 (by decide +kernel) rfl
theorem wSE_X4_X4_birdsDrivenBy : Cond.selects RX4 yX4_birdsDrivenBy yX4_birdsDrivenBy ∈ wB := wIn 3 (by decide +kernel) rfl
theorem wSE_X4_X4_loadOn : Cond.selects RX4 yX4_loadOn yX4_loadOn ∈ wB := wIn 4 (by decide +kernel) rfl
theorem wSE_X4_X4_mixBird : Cond.selects RX4 yX4_mixBird yX4_mixBird ∈ wB := wIn 5 (by decide +kernel) rfl
theorem wSE_X4_X4_birdAt : Cond.selects RX4 yX4_birdAt yX4_birdAt ∈ wB := wIn 6 (by decide +kernel) rfl
theorem wSE_X4_X4_goOneTick : Cond.selects RX4 yX4_goOneTick yX4_goOneTick ∈ wB := wIn 7 (by decide +kernel) rfl
theorem wSE_X4_X4_shareBetweenCoupled : Cond.selects RX4 yX4_shareBetweenCoupled yX4_shareBetweenCoupled ∈ wB := wIn 8 (by decide +kernel) rfl
theorem wSE_X4_X4_goShaft : Cond.selects RX4 yX4_goShaft yX4_goShaft ∈ wB := wIn 9 (by decide +kernel) rfl
theorem wSE_X4_X4_goBarrel : Cond.selects RX4 yX4_goBarrel yX4_goBarrel ∈ wB := wIn 10 (by decide +kernel) rfl
theorem wSE_X4_X4_soundPlace : Cond.selects RX4 yX4_soundPlace yX4_soundPlace ∈ wB := wIn 11 (by decide +kernel) rfl
theorem wSE_X4_X4_rememberAll : Cond.selects RX4 yX4_rememberAll yX4_rememberAll ∈ wB := wIn 12 (by decide +kernel) rfl
theorem wSE_X4_X4_areAllDown : Cond.selects RX4 yX4_areAllDown yX4_areAllDown ∈ wB := wIn 13 (by decide +kernel) rfl
theorem wSE_X4_X4_recallAll : Cond.selects RX4 yX4_recallAll yX4_recallAll ∈ wB := wIn 14 (by decide +kernel) rfl
theorem wSE_X5_X5_fail : Cond.selects RX5 yX5_fail yX5_fail ∈ wB := wIn 15 (by decide +kernel) rfl
theorem wSE_X5_X5_isSpring : Cond.selects RX5 yX5_isSpring yX5_isSpring ∈ wB := wIn 16 (by decide +kernel) rfl
theorem wSE_X5_X5_sp : Cond.selects RX5 yX5_sp yX5_sp ∈ wB := wIn 17 (by decide +kernel) rfl
theorem wSE_X5_X5_pairs : Cond.selects RX5 yX5_pairs yX5_pairs ∈ wB := wIn 18 (by decide +kernel) rfl
theorem wSE_X5_X5_springTold : Cond.selects RX5 yX5_springTold yX5_springTold ∈ wB := wIn 19 (by decide +kernel) rfl
theorem wSE_X5_X5_load : Cond.selects RX5 yX5_load yX5_load ∈ wB := wIn 20 (by decide +kernel) rfl
theorem wSE_X5_X5_get : Cond.selects RX5 yX5_get yX5_get ∈ wB := wIn 21 (by decide +kernel) rfl
theorem wSE_X5_X5_liftAt : Cond.selects RX5 yX5_liftAt yX5_liftAt ∈ wB := wIn 22 (by decide +kernel) rfl
theorem wSE_X5_X5_isBird : Cond.selects RX5 yX5_isBird yX5_isBird ∈ wB := wIn 23 (by decide +kernel) rfl
theorem wSE_X5_X5_set : Cond.selects RX5 yX5_set yX5_set ∈ wB := wIn 24 (by decide +kernel) rfl
theorem wSE_X5_X5_pointsOf : Cond.selects RX5 yX5_pointsOf yX5_pointsOf ∈ wB := wIn 25 (by decide +kernel) rfl
theorem wSE_X5_X5_oneTick : Cond.selects RX5 yX5_oneTick yX5_oneTick ∈ wB := wIn 26 (by decide +kernel) rfl
theorem wSE_X5_X5_turn : Cond.selects RX5 yX5_turn yX5_turn ∈ wB := wIn 27 (by decide +kernel) rfl
theorem wSE_X5_X5_note : Cond.selects RX5 yX5_note yX5_note ∈ wB := wIn 28 (by decide +kernel) rfl
theorem wSE_X5_X5_counted : Cond.selects RX5 yX5_counted yX5_counted ∈ wB := wIn 29 (by decide +kernel) rfl
theorem wSE_X5_X5_heldByAll : Cond.selects RX5 yX5_heldByAll yX5_heldByAll ∈ wB := wIn 30 (by decide +kernel) rfl
theorem wSE_X5_X5_isDown : Cond.selects RX5 yX5_isDown yX5_isDown ∈ wB := wIn 31 (by decide +kernel) rfl
theorem wIN_L : Cond.initialized RL ∈ wB := wIn 32 (by decide +kernel) rfl
theorem wIN_X4 : Cond.initialized RX4 ∈ wB := wIn 33 (by decide +kernel) rfl
theorem wIN_X2 : Cond.initialized RX2 ∈ wB := wIn 34 (by decide +kernel) rfl
theorem wIN_X5 : Cond.initialized RX5 ∈ wB := wIn 35 (by decide +kernel) rfl
theorem wIN_java_lang_Throwable : Cond.initialized "java/lang/Throwable" ∈ wB := wIn 36 (by decide +kernel) rfl
theorem wIN_java_lang_Exception : Cond.initialized "java/lang/Exception" ∈ wB := wIn 37 (by decide +kernel) rfl
theorem wIN_java_lang_RuntimeException : Cond.initialized "java/lang/RuntimeException" ∈ wB := wIn 38 (by decide +kernel) rfl
theorem wIN_java_lang_IllegalArgumentException : Cond.initialized "java/lang/IllegalArgumentException" ∈ wB := wIn 39 (by decide +kernel) rfl
theorem wIN_java_lang_IllegalStateException : Cond.initialized "java/lang/IllegalStateException" ∈ wB := wIn 40 (by decide +kernel) rfl
theorem wIN_X3 : Cond.initialized RX3 ∈ wB := wIn 41 (by decide +kernel) rfl
theorem wIN_java_lang_IndexOutOfBoundsException : Cond.initialized "java/lang/IndexOutOfBoundsException" ∈ wB := wIn 42 (by decide +kernel) rfl
theorem wIN_J9 : Cond.initialized RJ9 ∈ wB := wIn 43 (by decide +kernel) rfl
theorem wIN_J6 : Cond.initialized RJ6 ∈ wB := wIn 44 (by decide +kernel) rfl
theorem wIN_X0 : Cond.initialized RX0 ∈ wB := wIn 45 (by decide +kernel) rfl
theorem wIN_X1 : Cond.initialized RX1 ∈ wB := wIn 46 (by decide +kernel) rfl
theorem wIN_J10 : Cond.initialized RJ10 ∈ wB := wIn 47 (by decide +kernel) rfl
theorem wIN_J13 : Cond.initialized RJ13 ∈ wB := wIn 48 (by decide +kernel) rfl
theorem wCL_L_8 : Cond.classLink RL 8 RX4 ∈ wB := wIn 49 (by decide +kernel) rfl
theorem wIS_X4 : Cond.instantiable RX4 7 ∈ wB := wIn 50 (by decide +kernel) rfl
theorem wML_L_73 : Cond.methodLink RL 73 yX4_init ∈ wB := wIn 51 (by decide +kernel) rfl
theorem wIM_X4_init : Cond.instanceMethod yX4_init ∈ wB := wIn 52 (by decide +kernel) rfl
theorem wCO_X4_init : Cond.code yX4_init cX4_init 1 none ∈ wB := wIn 53 (by decide +kernel) rfl
theorem wML_X4_1 : Cond.methodLink RX4 1 objectInit ∈ wB := wIn 54 (by decide +kernel) rfl
theorem wIM_java_lang_Object__init____V : Cond.instanceMethod objectInit ∈ wB := wIn 55 (by decide +kernel) rfl
theorem wCO_java_lang_Object__init____V : Cond.code objectInit object_method_1_code 1 none ∈ wB := wIn 56 (by decide +kernel) rfl
theorem wCL_X4_9 : Cond.classLink RX4 9 RX3 ∈ wB := wIn 57 (by decide +kernel) rfl
theorem warrayOver___object__BirdParlour_Spring__ : Cond.arrayOver (.object "BirdParlour$Spring") ∈ lw_tbl := List.mem_of_getElem? (i := 58) (by decide +kernel)
theorem wCL_X4_15 : Cond.classLink RX4 15 RX0 ∈ wB := wIn 59 (by decide +kernel) rfl
theorem warrayOver___object__BirdParlour_Bird__ : Cond.arrayOver (.object "BirdParlour$Bird") ∈ lw_tbl := List.mem_of_getElem? (i := 60) (by decide +kernel)
theorem wCL_X4_21 : Cond.classLink RX4 21 RX2 ∈ wB := wIn 61 (by decide +kernel) rfl
theorem wIS_X2 : Cond.instantiable RX2 5 ∈ wB := wIn 62 (by decide +kernel) rfl
theorem wMN_X4_23 : Cond.methodLinkNest RX4 23 yX2_init "BirdParlour" ∈ lw_tbl := List.mem_of_getElem? (i := 63) (by decide +kernel)
theorem wIM_X2_init : Cond.instanceMethod yX2_init ∈ wB := wIn 64 (by decide +kernel) rfl
theorem wCO_X2_init : Cond.code yX2_init cX2_init 1 none ∈ wB := wIn 65 (by decide +kernel) rfl
theorem wML_X2_3 : Cond.methodLink RX2 3 objectInit ∈ wB := wIn 66 (by decide +kernel) rfl
theorem wFL_X2_9 : Cond.fieldLink RX2 9 RX2 "kept" "[I" ∈ wB := wIn 67 (by decide +kernel) rfl
theorem wFL_X2_15 : Cond.fieldLink RX2 15 RX2 "keptNotes" "I" ∈ wB := wIn 68 (by decide +kernel) rfl
theorem wFL_X4_245 : Cond.fieldLink RX4 245 RX2 "keptNotes" "I" ∈ wB := wIn 69 (by decide +kernel) rfl
theorem wFL_X2_22 : Cond.fieldLink RX2 22 RX2 "allNotes" "I" ∈ wB := wIn 70 (by decide +kernel) rfl
theorem wFL_X4_237 : Cond.fieldLink RX4 237 RX2 "allNotes" "I" ∈ wB := wIn 71 (by decide +kernel) rfl
theorem wFL_X2_19 : Cond.fieldLink RX2 19 RX2 "keptBefore" "I" ∈ wB := wIn 72 (by decide +kernel) rfl
theorem wFL_X2_25 : Cond.fieldLink RX2 25 RX2 "allBefore" "I" ∈ wB := wIn 73 (by decide +kernel) rfl
theorem warrayClass__int : Cond.arrayClass .int ∈ wB := wIn 85 (by decide +kernel) rfl
theorem wFL_X4_11 : Cond.fieldLink RX4 11 RX4 "springs" "[LBirdParlour$Spring;" ∈ wB := wIn 86 (by decide +kernel) rfl
theorem wFL_X4_17 : Cond.fieldLink RX4 17 RX4 "birds" "[LBirdParlour$Bird;" ∈ wB := wIn 87 (by decide +kernel) rfl
theorem wFL_X4_24 : Cond.fieldLink RX4 24 RX4 "songs" "LBirdParlour$Songs;" ∈ wB := wIn 88 (by decide +kernel) rfl
theorem wFL_X4_39 : Cond.fieldLink RX4 39 RX4 "springCount" "I" ∈ wB := wIn 89 (by decide +kernel) rfl
theorem wFL_X4_114 : Cond.fieldLink RX4 114 RX4 "birdCount" "I" ∈ wB := wIn 90 (by decide +kernel) rfl
theorem wFL_X4_81 : Cond.fieldLink RX4 81 RX4 "couplings" "I" ∈ wB := wIn 91 (by decide +kernel) rfl
theorem wFL_X4_234 : Cond.fieldLink RX4 234 RX4 "tick" "I" ∈ wB := wIn 92 (by decide +kernel) rfl
theorem wML_L_138 : Cond.methodLink RL 138 yX4_longest ∈ wB := wIn 108 (by decide +kernel) rfl
theorem wIM_X4_longest : Cond.instanceMethod yX4_longest ∈ wB := wIn 109 (by decide +kernel) rfl
theorem wSE_X4_X4_longest : Cond.selects RX4 yX4_longest yX4_longest ∈ wB := wIn 110 (by decide +kernel) rfl
theorem wCO_X4_longest : Cond.code yX4_longest cX4_longest 6 (some .int) ∈ wB := wIn 111 (by decide +kernel) rfl
theorem wML_X4_252 : Cond.methodLink RX4 252 yX2_told ∈ wB := wIn 112 (by decide +kernel) rfl
theorem wIM_X2_told : Cond.instanceMethod yX2_told ∈ wB := wIn 113 (by decide +kernel) rfl
theorem wSE_X2_X2_told : Cond.selects RX2 yX2_told yX2_told ∈ wB := wIn 114 (by decide +kernel) rfl
theorem wCO_X2_told : Cond.code yX2_told cX2_told 3 (some .int) ∈ wB := wIn 115 (by decide +kernel) rfl
theorem wMN_X2_32 : Cond.methodLinkNest RX2 32 yX4_at "BirdParlour" ∈ lw_tbl := List.mem_of_getElem? (i := 116) (by decide +kernel)
theorem wST_X4_at : Cond.static yX4_at ∈ wB := wIn 117 (by decide +kernel) rfl
theorem wCO_X4_at : Cond.code yX4_at cX4_at 2 (some .int) ∈ wB := wIn 118 (by decide +kernel) rfl
theorem wML_X4_262 : Cond.methodLink RX4 262 Lib.Math.max.name ∈ wB := wIn 119 (by decide +kernel) rfl
theorem wST_J9_max_7cf53 : Cond.static Lib.Math.max.name ∈ wB := wIn 120 (by decide +kernel) rfl
theorem wCO_J9_max_7cf53 : Cond.code Lib.Math.max.name Lib.Math.max.code 2 (some .int) ∈ wB := wIn 121 (by decide +kernel) rfl
theorem wML_L_142 : Cond.methodLink RL 142 yX4_emptySongs ∈ wB := wIn 122 (by decide +kernel) rfl
theorem wIM_X4_emptySongs : Cond.instanceMethod yX4_emptySongs ∈ wB := wIn 123 (by decide +kernel) rfl
theorem wSE_X4_X4_emptySongs : Cond.selects RX4 yX4_emptySongs yX4_emptySongs ∈ wB := wIn 124 (by decide +kernel) rfl
theorem wCO_X4_emptySongs : Cond.code yX4_emptySongs cX4_emptySongs 2 (some .int) ∈ wB := wIn 125 (by decide +kernel) rfl
theorem wML_X4_265 : Cond.methodLink RX4 265 yX2_clearAll ∈ wB := wIn 126 (by decide +kernel) rfl
theorem wIM_X2_clearAll : Cond.instanceMethod yX2_clearAll ∈ wB := wIn 127 (by decide +kernel) rfl
theorem wSE_X2_X2_clearAll : Cond.selects RX2 yX2_clearAll yX2_clearAll ∈ wB := wIn 128 (by decide +kernel) rfl
theorem wCO_X2_clearAll : Cond.code yX2_clearAll cX2_clearAll 1 none ∈ wB := wIn 129 (by decide +kernel) rfl
theorem wML_L_149 : Cond.methodLink RL 149 yX4_tension ∈ wB := wIn 130 (by decide +kernel) rfl
theorem wIM_X4_tension : Cond.instanceMethod yX4_tension ∈ wB := wIn 131 (by decide +kernel) rfl
theorem wSE_X4_X4_tension : Cond.selects RX4 yX4_tension yX4_tension ∈ wB := wIn 132 (by decide +kernel) rfl
theorem wCO_X4_tension : Cond.code yX4_tension cX4_tension 1 (some .double) ∈ wB := wIn 133 (by decide +kernel) rfl
theorem wML_X4_240 : Cond.methodLink RX4 240 yX4_heldByAll ∈ wB := wIn 134 (by decide +kernel) rfl
theorem wPM_X4_heldByAll : Cond.privateMethod yX4_heldByAll ∈ lw_tbl := List.mem_of_getElem? (i := 135) (by decide +kernel)
theorem wIM_X4_heldByAll : Cond.instanceMethod yX4_heldByAll ∈ wB := wIn 136 (by decide +kernel) rfl
theorem wCO_X4_heldByAll : Cond.code yX4_heldByAll cX4_heldByAll 6 (some .int) ∈ wB := wIn 137 (by decide +kernel) rfl
theorem wML_L_154 : Cond.methodLink RL 154 yX4_digest ∈ wB := wIn 138 (by decide +kernel) rfl
theorem wIM_X4_digest : Cond.instanceMethod yX4_digest ∈ wB := wIn 139 (by decide +kernel) rfl
theorem wSE_X4_X4_digest : Cond.selects RX4 yX4_digest yX4_digest ∈ wB := wIn 140 (by decide +kernel) rfl
theorem wCO_X4_digest : Cond.code yX4_digest cX4_digest 5 (some .long) ∈ wB := wIn 141 (by decide +kernel) rfl
theorem wconstantLong_X4_280 : Cond.constantLong RX4 280 449 ∈ wB := wIn 142 (by decide +kernel) rfl
theorem wML_X4_282 : Cond.methodLink RX4 282 yX4_count ∈ wB := wIn 143 (by decide +kernel) rfl
theorem wIM_X4_count : Cond.instanceMethod yX4_count ∈ wB := wIn 144 (by decide +kernel) rfl
theorem wSE_X4_X4_count : Cond.selects RX4 yX4_count yX4_count ∈ wB := wIn 145 (by decide +kernel) rfl
theorem wCO_X4_count : Cond.code yX4_count cX4_count 2 (some .int) ∈ wB := wIn 146 (by decide +kernel) rfl
theorem wML_X4_84 : Cond.methodLink RX4 84 yJ6_bitCount_0f7a4 ∈ wB := wIn 147 (by decide +kernel) rfl
theorem wST_J6_bitCount_0f7a4 : Cond.static yJ6_bitCount_0f7a4 ∈ wB := wIn 148 (by decide +kernel) rfl
theorem wCO_J6_bitCount_0f7a4 : Cond.code yJ6_bitCount_0f7a4 cJ6_bitCount_0f7a4 1 (some .int) ∈ wB := wIn 149 (by decide +kernel) rfl
theorem wconstant_J6_265 : Cond.constant RJ6 265 1431655765 ∈ wB := wIn 150 (by decide +kernel) rfl
theorem wconstant_J6_266 : Cond.constant RJ6 266 858993459 ∈ wB := wIn 151 (by decide +kernel) rfl
theorem wconstant_J6_267 : Cond.constant RJ6 267 252645135 ∈ wB := wIn 152 (by decide +kernel) rfl
theorem wCL_X4_55 : Cond.classLink RX4 55 "java/lang/IndexOutOfBoundsException" ∈ wB := wIn 153 (by decide +kernel) rfl
theorem wCA_java_lang_IndexOutOfBoundsException_java_lang_IndexOutOfBoundsException : Cond.castable "java/lang/IndexOutOfBoundsException" "java/lang/IndexOutOfBoundsException" ∈ lw_tbl := List.mem_of_getElem? (i := 155) (by decide +kernel)
theorem wlaysStatic_java_lang_Throwable_UNASSIGNED_STACK : Cond.laysStatic "java/lang/Throwable" "UNASSIGNED_STACK" "[Ljava/lang/StackTraceElement;" ∈ lw_tbl := List.mem_of_getElem? (i := 180) (by decide +kernel)
theorem wlaysStatic_java_lang_Throwable_SUPPRESSED_SENTINEL : Cond.laysStatic "java/lang/Throwable" "SUPPRESSED_SENTINEL" "Ljava/util/List;" ∈ lw_tbl := List.mem_of_getElem? (i := 182) (by decide +kernel)
theorem wPM_java_lang_Throwable_fillInStackTrace__I_Ljava_lang_Throwable_ : Cond.privateMethod ⟨"java/lang/Throwable", "fillInStackTrace", "(I)Ljava/lang/Throwable;"⟩ ∈ lw_tbl := List.mem_of_getElem? (i := 190) (by decide +kernel)
theorem wNA_java_lang_Throwable_fillInStackTrace__I_Ljava_lang_Throwable_ : Cond.native ⟨"java/lang/Throwable", "fillInStackTrace", "(I)Ljava/lang/Throwable;"⟩ ∈ lw_tbl := List.mem_of_getElem? (i := 193) (by decide +kernel)
theorem wSR_243 : Cond.stringRef RX4 243 "what is not 0 to 5" ∈ lw_tbl := List.mem_of_getElem? (i := 194) (by decide +kernel)
theorem wML_X4_59 : Cond.methodLink RX4 59 ⟨"java/lang/IndexOutOfBoundsException", "<init>", "(Ljava/lang/String;)V"⟩ ∈ wB := wIn 195 (by decide +kernel) rfl
theorem warrayClass__byte : Cond.arrayClass .byte ∈ wB := wIn 220 (by decide +kernel) rfl
theorem wML_X4_285 : Cond.methodLink RX4 285 yX4_mix ∈ wB := wIn 221 (by decide +kernel) rfl
theorem wST_X4_mix : Cond.static yX4_mix ∈ wB := wIn 222 (by decide +kernel) rfl
theorem wCO_X4_mix : Cond.code yX4_mix cX4_mix 3 (some .long) ∈ wB := wIn 223 (by decide +kernel) rfl
theorem wconstantLong_X4_365 : Cond.constantLong RX4 365 31 ∈ wB := wIn 224 (by decide +kernel) rfl
theorem wML_X4_289 : Cond.methodLink RX4 289 yX4_spring ∈ wB := wIn 225 (by decide +kernel) rfl
theorem wIM_X4_spring : Cond.instanceMethod yX4_spring ∈ wB := wIn 226 (by decide +kernel) rfl
theorem wSE_X4_X4_spring : Cond.selects RX4 yX4_spring yX4_spring ∈ wB := wIn 227 (by decide +kernel) rfl
theorem wCO_X4_spring : Cond.code yX4_spring cX4_spring 4 (some .int) ∈ wB := wIn 228 (by decide +kernel) rfl
theorem wML_X4_51 : Cond.methodLink RX4 51 yX4_springAt ∈ wB := wIn 229 (by decide +kernel) rfl
theorem wPM_X4_springAt : Cond.privateMethod yX4_springAt ∈ lw_tbl := List.mem_of_getElem? (i := 230) (by decide +kernel)
theorem wIM_X4_springAt : Cond.instanceMethod yX4_springAt ∈ wB := wIn 231 (by decide +kernel) rfl
theorem wCO_X4_springAt : Cond.code yX4_springAt cX4_springAt 2 (some (.object "BirdParlour$Spring")) ∈ wB := wIn 232 (by decide +kernel) rfl
theorem wSR_57 : Cond.stringRef RX4 57 "no such spring" ∈ lw_tbl := List.mem_of_getElem? (i := 233) (by decide +kernel)
theorem wML_X4_100 : Cond.methodLink RX4 100 yX4_birdsDrivenBy ∈ wB := wIn 234 (by decide +kernel) rfl
theorem wPM_X4_birdsDrivenBy : Cond.privateMethod yX4_birdsDrivenBy ∈ lw_tbl := List.mem_of_getElem? (i := 235) (by decide +kernel)
theorem wIM_X4_birdsDrivenBy : Cond.instanceMethod yX4_birdsDrivenBy ∈ wB := wIn 236 (by decide +kernel) rfl
theorem wCO_X4_birdsDrivenBy : Cond.code yX4_birdsDrivenBy cX4_birdsDrivenBy 7 (some .int) ∈ wB := wIn 237 (by decide +kernel) rfl
theorem wML_X4_314 : Cond.methodLink RX4 314 yX0_isDrivenBy ∈ wB := wIn 238 (by decide +kernel) rfl
theorem wIM_X0_isDrivenBy : Cond.instanceMethod yX0_isDrivenBy ∈ wB := wIn 239 (by decide +kernel) rfl
theorem wSE_X0_X0_isDrivenBy : Cond.selects RX0 yX0_isDrivenBy yX0_isDrivenBy ∈ wB := wIn 240 (by decide +kernel) rfl
theorem wCO_X0_isDrivenBy : Cond.code yX0_isDrivenBy cX0_isDrivenBy 2 (some .boolean) ∈ wB := wIn 241 (by decide +kernel) rfl
theorem wML_X4_103 : Cond.methodLink RX4 103 yX4_loadOn ∈ wB := wIn 242 (by decide +kernel) rfl
theorem wPM_X4_loadOn : Cond.privateMethod yX4_loadOn ∈ lw_tbl := List.mem_of_getElem? (i := 243) (by decide +kernel)
theorem wIM_X4_loadOn : Cond.instanceMethod yX4_loadOn ∈ wB := wIn 244 (by decide +kernel) rfl
theorem wCO_X4_loadOn : Cond.code yX4_loadOn cX4_loadOn 7 (some .int) ∈ wB := wIn 245 (by decide +kernel) rfl
theorem wML_X4_345 : Cond.methodLink RX4 345 yX0_burden ∈ wB := wIn 246 (by decide +kernel) rfl
theorem wIM_X0_burden : Cond.instanceMethod yX0_burden ∈ wB := wIn 247 (by decide +kernel) rfl
theorem wSE_X0_X0_burden : Cond.selects RX0 yX0_burden yX0_burden ∈ wB := wIn 248 (by decide +kernel) rfl
theorem wCO_X0_burden : Cond.code yX0_burden cX0_burden 7 (some .int) ∈ wB := wIn 249 (by decide +kernel) rfl
theorem wML_X0_86 : Cond.methodLink RX0 86 yX0_placeNow ∈ wB := wIn 250 (by decide +kernel) rfl
theorem wIM_X0_placeNow : Cond.instanceMethod yX0_placeNow ∈ wB := wIn 251 (by decide +kernel) rfl
theorem wSE_X0_X0_placeNow : Cond.selects RX0 yX0_placeNow yX0_placeNow ∈ wB := wIn 252 (by decide +kernel) rfl
theorem wCO_X0_placeNow : Cond.code yX0_placeNow cX0_placeNow 1 (some .int) ∈ wB := wIn 253 (by decide +kernel) rfl
theorem wML_X0_63 : Cond.methodLink RX0 63 yX0_placeWhenGone ∈ wB := wIn 254 (by decide +kernel) rfl
theorem wIM_X0_placeWhenGone : Cond.instanceMethod yX0_placeWhenGone ∈ wB := wIn 255 (by decide +kernel) rfl
theorem wSE_X0_X0_placeWhenGone : Cond.selects RX0 yX0_placeWhenGone yX0_placeWhenGone ∈ wB := wIn 256 (by decide +kernel) rfl
theorem wCO_X0_placeWhenGone : Cond.code yX0_placeWhenGone cX0_placeWhenGone 3 (some .int) ∈ wB := wIn 257 (by decide +kernel) rfl
theorem wMN_X0_71 : Cond.methodLinkNest RX0 71 yX4_at "BirdParlour" ∈ lw_tbl := List.mem_of_getElem? (i := 258) (by decide +kernel)
theorem wSR_106 : Cond.stringRef RX4 106 "what is not 0 to 6" ∈ lw_tbl := List.mem_of_getElem? (i := 259) (by decide +kernel)
theorem wML_X4_291 : Cond.methodLink RX4 291 yX4_mixBird ∈ wB := wIn 260 (by decide +kernel) rfl
theorem wPM_X4_mixBird : Cond.privateMethod yX4_mixBird ∈ lw_tbl := List.mem_of_getElem? (i := 261) (by decide +kernel)
theorem wIM_X4_mixBird : Cond.instanceMethod yX4_mixBird ∈ wB := wIn 262 (by decide +kernel) rfl
theorem wCO_X4_mixBird : Cond.code yX4_mixBird cX4_mixBird 11 (some .long) ∈ wB := wIn 263 (by decide +kernel) rfl
theorem wML_X4_358 : Cond.methodLink RX4 358 yX4_bird ∈ wB := wIn 264 (by decide +kernel) rfl
theorem wIM_X4_bird : Cond.instanceMethod yX4_bird ∈ wB := wIn 265 (by decide +kernel) rfl
theorem wSE_X4_X4_bird : Cond.selects RX4 yX4_bird yX4_bird ∈ wB := wIn 266 (by decide +kernel) rfl
theorem wCO_X4_bird : Cond.code yX4_bird cX4_bird 4 (some .int) ∈ wB := wIn 267 (by decide +kernel) rfl
theorem wML_X4_122 : Cond.methodLink RX4 122 yX4_birdAt ∈ wB := wIn 268 (by decide +kernel) rfl
theorem wPM_X4_birdAt : Cond.privateMethod yX4_birdAt ∈ lw_tbl := List.mem_of_getElem? (i := 269) (by decide +kernel)
theorem wIM_X4_birdAt : Cond.instanceMethod yX4_birdAt ∈ wB := wIn 270 (by decide +kernel) rfl
theorem wCO_X4_birdAt : Cond.code yX4_birdAt cX4_birdAt 2 (some (.object "BirdParlour$Bird")) ∈ wB := wIn 271 (by decide +kernel) rfl
theorem wSR_126 : Cond.stringRef RX4 126 "no such bird" ∈ lw_tbl := List.mem_of_getElem? (i := 272) (by decide +kernel)
theorem wML_X4_212 : Cond.methodLink RX4 212 yX0_placeNow ∈ wB := wIn 273 (by decide +kernel) rfl
theorem wSR_222 : Cond.stringRef RX4 222 "what is not 0 to 9" ∈ lw_tbl := List.mem_of_getElem? (i := 274) (by decide +kernel)
theorem wML_X4_361 : Cond.methodLink RX4 361 yX4_lift ∈ wB := wIn 275 (by decide +kernel) rfl
theorem wIM_X4_lift : Cond.instanceMethod yX4_lift ∈ wB := wIn 276 (by decide +kernel) rfl
theorem wSE_X4_X4_lift : Cond.selects RX4 yX4_lift yX4_lift ∈ wB := wIn 277 (by decide +kernel) rfl
theorem wCO_X4_lift : Cond.code yX4_lift cX4_lift 6 (some .int) ∈ wB := wIn 278 (by decide +kernel) rfl
theorem wML_X4_173 : Cond.methodLink RX4 173 yX0_camAt ∈ wB := wIn 279 (by decide +kernel) rfl
theorem wIM_X0_camAt : Cond.instanceMethod yX0_camAt ∈ wB := wIn 280 (by decide +kernel) rfl
theorem wSE_X0_X0_camAt : Cond.selects RX0 yX0_camAt yX0_camAt ∈ wB := wIn 281 (by decide +kernel) rfl
theorem wCO_X0_camAt : Cond.code yX0_camAt cX0_camAt 2 (some (.object "BirdParlour$Cam")) ∈ wB := wIn 282 (by decide +kernel) rfl
theorem wSR_177 : Cond.stringRef RX4 177 "no such bird or cam" ∈ lw_tbl := List.mem_of_getElem? (i := 283) (by decide +kernel)
theorem wML_X4_138 : Cond.methodLink RX4 138 yX0_hasPlace ∈ wB := wIn 284 (by decide +kernel) rfl
theorem wIM_X0_hasPlace : Cond.instanceMethod yX0_hasPlace ∈ wB := wIn 285 (by decide +kernel) rfl
theorem wSE_X0_X0_hasPlace : Cond.selects RX0 yX0_hasPlace yX0_hasPlace ∈ wB := wIn 286 (by decide +kernel) rfl
theorem wCO_X0_hasPlace : Cond.code yX0_hasPlace cX0_hasPlace 2 (some .boolean) ∈ wB := wIn 287 (by decide +kernel) rfl
theorem wMN_X0_67 : Cond.methodLinkNest RX0 67 yX4_isIn "BirdParlour" ∈ lw_tbl := List.mem_of_getElem? (i := 288) (by decide +kernel)
theorem wST_X4_isIn : Cond.static yX4_isIn ∈ wB := wIn 289 (by decide +kernel) rfl
theorem wCO_X4_isIn : Cond.code yX4_isIn cX4_isIn 3 (some .boolean) ∈ wB := wIn 290 (by decide +kernel) rfl
theorem wCL_X4_32 : Cond.classLink RX4 32 "java/lang/IllegalArgumentException" ∈ wB := wIn 291 (by decide +kernel) rfl
theorem wCA_java_lang_IllegalArgumentException_java_lang_IllegalArgumentException : Cond.castable "java/lang/IllegalArgumentException" "java/lang/IllegalArgumentException" ∈ lw_tbl := List.mem_of_getElem? (i := 293) (by decide +kernel)
theorem wSR_224 : Cond.stringRef RX4 224 "place is neither -1 nor on the barrel" ∈ lw_tbl := List.mem_of_getElem? (i := 300) (by decide +kernel)
theorem wML_X4_36 : Cond.methodLink RX4 36 ⟨"java/lang/IllegalArgumentException", "<init>", "(Ljava/lang/String;)V"⟩ ∈ wB := wIn 301 (by decide +kernel) rfl
theorem wML_X4_165 : Cond.methodLink RX4 165 yX4_at ∈ wB := wIn 307 (by decide +kernel) rfl
theorem wML_X4_294 : Cond.methodLink RX4 294 yX4_sung ∈ wB := wIn 308 (by decide +kernel) rfl
theorem wIM_X4_sung : Cond.instanceMethod yX4_sung ∈ wB := wIn 309 (by decide +kernel) rfl
theorem wSE_X4_X4_sung : Cond.selects RX4 yX4_sung yX4_sung ∈ wB := wIn 310 (by decide +kernel) rfl
theorem wCO_X4_sung : Cond.code yX4_sung cX4_sung 3 (some .int) ∈ wB := wIn 311 (by decide +kernel) rfl
theorem wML_X4_28 : Cond.methodLink RX4 28 yX4_isIn ∈ wB := wIn 312 (by decide +kernel) rfl
theorem wSR_248 : Cond.stringRef RX4 248 "no such note" ∈ lw_tbl := List.mem_of_getElem? (i := 313) (by decide +kernel)
theorem wSR_250 : Cond.stringRef RX4 250 "what is not 0 to 3" ∈ lw_tbl := List.mem_of_getElem? (i := 314) (by decide +kernel)
theorem wML_L_77 : Cond.methodLink RL 77 yL_addSpring ∈ wB := wIn 315 (by decide +kernel) rfl
theorem wST_L_addSpring : Cond.static yL_addSpring ∈ wB := wIn 316 (by decide +kernel) rfl
theorem wCW_L_addSpring : Cond.codeWith yL_addSpring cL_addSpring 4 (some .int) [(0, 9, 12, 13), (0, 9, 15, 15)] ∈ wB := wIn 317 (by decide +kernel) rfl
theorem wCL_L_13 : Cond.classLink RL 13 "java/lang/IllegalArgumentException" ∈ wB := wIn 318 (by decide +kernel) rfl
theorem wCL_L_15 : Cond.classLink RL 15 "java/lang/IllegalStateException" ∈ wB := wIn 319 (by decide +kernel) rfl
theorem wML_L_7 : Cond.methodLink RL 7 yX4_addSpring ∈ wB := wIn 320 (by decide +kernel) rfl
theorem wIM_X4_addSpring : Cond.instanceMethod yX4_addSpring ∈ wB := wIn 321 (by decide +kernel) rfl
theorem wSE_X4_X4_addSpring : Cond.selects RX4 yX4_addSpring yX4_addSpring ∈ wB := wIn 322 (by decide +kernel) rfl
theorem wCO_X4_addSpring : Cond.code yX4_addSpring cX4_addSpring 3 (some .int) ∈ wB := wIn 323 (by decide +kernel) rfl
theorem wSR_34 : Cond.stringRef RX4 34 "strength is not 1 to 50" ∈ lw_tbl := List.mem_of_getElem? (i := 324) (by decide +kernel)
theorem wCL_X4_43 : Cond.classLink RX4 43 "java/lang/IllegalStateException" ∈ wB := wIn 325 (by decide +kernel) rfl
theorem wCA_java_lang_IllegalStateException_java_lang_IllegalStateException : Cond.castable "java/lang/IllegalStateException" "java/lang/IllegalStateException" ∈ lw_tbl := List.mem_of_getElem? (i := 327) (by decide +kernel)
theorem wSR_45 : Cond.stringRef RX4 45 "there are 4 springs" ∈ lw_tbl := List.mem_of_getElem? (i := 334) (by decide +kernel)
theorem wML_X4_47 : Cond.methodLink RX4 47 ⟨"java/lang/IllegalStateException", "<init>", "(Ljava/lang/String;)V"⟩ ∈ wB := wIn 335 (by decide +kernel) rfl
theorem wIS_X3 : Cond.instantiable RX3 8 ∈ wB := wIn 341 (by decide +kernel) rfl
theorem wML_X4_48 : Cond.methodLink RX4 48 yX3_init ∈ wB := wIn 342 (by decide +kernel) rfl
theorem wIM_X3_init : Cond.instanceMethod yX3_init ∈ wB := wIn 343 (by decide +kernel) rfl
theorem wCO_X3_init : Cond.code yX3_init cX3_init 2 none ∈ wB := wIn 344 (by decide +kernel) rfl
theorem wML_X3_3 : Cond.methodLink RX3 3 objectInit ∈ wB := wIn 345 (by decide +kernel) rfl
theorem wFL_X3_9 : Cond.fieldLink RX3 9 RX3 "strength" "I" ∈ wB := wIn 346 (by decide +kernel) rfl
theorem wFL_X4_90 : Cond.fieldLink RX4 90 RX3 "strength" "I" ∈ wB := wIn 347 (by decide +kernel) rfl
theorem wFL_X3_15 : Cond.fieldLink RX3 15 RX3 "held" "I" ∈ wB := wIn 348 (by decide +kernel) rfl
theorem wFL_X4_63 : Cond.fieldLink RX4 63 RX3 "held" "I" ∈ wB := wIn 349 (by decide +kernel) rfl
theorem wFL_X3_21 : Cond.fieldLink RX3 21 RX3 "shaft" "J" ∈ wB := wIn 350 (by decide +kernel) rfl
theorem wFL_X4_93 : Cond.fieldLink RX4 93 RX3 "shaft" "J" ∈ wB := wIn 351 (by decide +kernel) rfl
theorem wFL_X3_28 : Cond.fieldLink RX3 28 RX3 "speed" "I" ∈ wB := wIn 352 (by decide +kernel) rfl
theorem wFL_X4_97 : Cond.fieldLink RX4 97 RX3 "speed" "I" ∈ wB := wIn 353 (by decide +kernel) rfl
theorem wFL_X4_72 : Cond.fieldLink RX4 72 RX3 "isBraked" "Z" ∈ wB := wIn 354 (by decide +kernel) rfl
theorem wFL_X3_18 : Cond.fieldLink RX3 18 RX3 "heldBefore" "I" ∈ wB := wIn 355 (by decide +kernel) rfl
theorem wFL_X3_25 : Cond.fieldLink RX3 25 RX3 "shaftBefore" "J" ∈ wB := wIn 356 (by decide +kernel) rfl
theorem wFL_X3_31 : Cond.fieldLink RX3 31 RX3 "speedBefore" "I" ∈ wB := wIn 357 (by decide +kernel) rfl
theorem wML_L_87 : Cond.methodLink RL 87 yL_wind ∈ wB := wIn 375 (by decide +kernel) rfl
theorem wST_L_wind : Cond.static yL_wind ∈ wB := wIn 376 (by decide +kernel) rfl
theorem wCW_L_wind : Cond.codeWith yL_wind cL_wind 5 (some .int) [(0, 10, 13, 21), (0, 10, 17, 13)] ∈ wB := wIn 377 (by decide +kernel) rfl
theorem wCL_L_21 : Cond.classLink RL 21 "java/lang/IndexOutOfBoundsException" ∈ wB := wIn 378 (by decide +kernel) rfl
theorem wML_L_17 : Cond.methodLink RL 17 yX4_wind ∈ wB := wIn 379 (by decide +kernel) rfl
theorem wIM_X4_wind : Cond.instanceMethod yX4_wind ∈ wB := wIn 380 (by decide +kernel) rfl
theorem wSE_X4_X4_wind : Cond.selects RX4 yX4_wind yX4_wind ∈ wB := wIn 381 (by decide +kernel) rfl
theorem wCO_X4_wind : Cond.code yX4_wind cX4_wind 4 (some .int) ∈ wB := wIn 382 (by decide +kernel) rfl
theorem wconstant_X4_60 : Cond.constant RX4 60 200000 ∈ wB := wIn 383 (by decide +kernel) rfl
theorem wSR_61 : Cond.stringRef RX4 61 "turns is not 1 to 200000" ∈ lw_tbl := List.mem_of_getElem? (i := 384) (by decide +kernel)
theorem wML_X4_66 : Cond.methodLink RX4 66 Lib.Math.min.name ∈ wB := wIn 385 (by decide +kernel) rfl
theorem wST_J9_min_7cf53 : Cond.static Lib.Math.min.name ∈ wB := wIn 386 (by decide +kernel) rfl
theorem wCO_J9_min_7cf53 : Cond.code Lib.Math.min.name Lib.Math.min.code 2 (some .int) ∈ wB := wIn 387 (by decide +kernel) rfl
theorem wML_L_91 : Cond.methodLink RL 91 yL_brake ∈ wB := wIn 388 (by decide +kernel) rfl
theorem wST_L_brake : Cond.static yL_brake ∈ wB := wIn 389 (by decide +kernel) rfl
theorem wCW_L_brake : Cond.codeWith yL_brake cL_brake 5 (some .int) [(0, 17, 20, 21)] ∈ wB := wIn 390 (by decide +kernel) rfl
theorem wML_L_23 : Cond.methodLink RL 23 yX4_brake ∈ wB := wIn 391 (by decide +kernel) rfl
theorem wIM_X4_brake : Cond.instanceMethod yX4_brake ∈ wB := wIn 392 (by decide +kernel) rfl
theorem wSE_X4_X4_brake : Cond.selects RX4 yX4_brake yX4_brake ∈ wB := wIn 393 (by decide +kernel) rfl
theorem wCO_X4_brake : Cond.code yX4_brake cX4_brake 5 (some .boolean) ∈ wB := wIn 394 (by decide +kernel) rfl
theorem wML_L_95 : Cond.methodLink RL 95 yL_couple ∈ wB := wIn 395 (by decide +kernel) rfl
theorem wST_L_couple : Cond.static yL_couple ∈ wB := wIn 396 (by decide +kernel) rfl
theorem wCW_L_couple : Cond.codeWith yL_couple cL_couple 6 (some .int) [(0, 12, 15, 21), (0, 12, 19, 13)] ∈ wB := wIn 397 (by decide +kernel) rfl
theorem wML_L_27 : Cond.methodLink RL 27 yX4_couple ∈ wB := wIn 398 (by decide +kernel) rfl
theorem wIM_X4_couple : Cond.instanceMethod yX4_couple ∈ wB := wIn 399 (by decide +kernel) rfl
theorem wSE_X4_X4_couple : Cond.selects RX4 yX4_couple yX4_couple ∈ wB := wIn 400 (by decide +kernel) rfl
theorem wCO_X4_couple : Cond.code yX4_couple cX4_couple 5 (some .int) ∈ wB := wIn 401 (by decide +kernel) rfl
theorem wSR_76 : Cond.stringRef RX4 76 "both are the same spring" ∈ lw_tbl := List.mem_of_getElem? (i := 402) (by decide +kernel)
theorem wML_X4_78 : Cond.methodLink RX4 78 yX4_pairBit ∈ wB := wIn 403 (by decide +kernel) rfl
theorem wST_X4_pairBit : Cond.static yX4_pairBit ∈ wB := wIn 404 (by decide +kernel) rfl
theorem wCO_X4_pairBit : Cond.code yX4_pairBit cX4_pairBit 2 (some .int) ∈ wB := wIn 405 (by decide +kernel) rfl
theorem wML_L_99 : Cond.methodLink RL 99 yL_spring ∈ wB := wIn 406 (by decide +kernel) rfl
theorem wST_L_spring : Cond.static yL_spring ∈ wB := wIn 407 (by decide +kernel) rfl
theorem wCW_L_spring : Cond.codeWith yL_spring cL_spring 5 (some .int) [(0, 10, 13, 21)] ∈ wB := wIn 408 (by decide +kernel) rfl
theorem wML_L_31 : Cond.methodLink RL 31 yX4_spring ∈ wB := wIn 409 (by decide +kernel) rfl
theorem wML_L_102 : Cond.methodLink RL 102 yL_addBird ∈ wB := wIn 410 (by decide +kernel) rfl
theorem wST_L_addBird : Cond.static yL_addBird ∈ wB := wIn 411 (by decide +kernel) rfl
theorem wCW_L_addBird : Cond.codeWith yL_addBird cL_addBird 8 (some .int) [(0, 16, 19, 21), (0, 16, 23, 13), (0, 16, 27, 15)] ∈ wB := wIn 412 (by decide +kernel) rfl
theorem wML_L_34 : Cond.methodLink RL 34 yX4_addBird ∈ wB := wIn 413 (by decide +kernel) rfl
theorem wIM_X4_addBird : Cond.instanceMethod yX4_addBird ∈ wB := wIn 414 (by decide +kernel) rfl
theorem wSE_X4_X4_addBird : Cond.selects RX4 yX4_addBird yX4_addBird ∈ wB := wIn 415 (by decide +kernel) rfl
theorem wCO_X4_addBird : Cond.code yX4_addBird cX4_addBird 8 (some .int) ∈ wB := wIn 416 (by decide +kernel) rfl
theorem wSR_108 : Cond.stringRef RX4 108 "weight is not 0 to 20" ∈ lw_tbl := List.mem_of_getElem? (i := 417) (by decide +kernel)
theorem wSR_110 : Cond.stringRef RX4 110 "places is not 8 to 96" ∈ lw_tbl := List.mem_of_getElem? (i := 418) (by decide +kernel)
theorem wSR_112 : Cond.stringRef RX4 112 "p or q is not 1 to 12" ∈ lw_tbl := List.mem_of_getElem? (i := 419) (by decide +kernel)
theorem wSR_117 : Cond.stringRef RX4 117 "there are 8 birds" ∈ lw_tbl := List.mem_of_getElem? (i := 420) (by decide +kernel)
theorem wIS_X0 : Cond.instantiable RX0 15 ∈ wB := wIn 421 (by decide +kernel) rfl
theorem wML_X4_119 : Cond.methodLink RX4 119 yX0_init ∈ wB := wIn 422 (by decide +kernel) rfl
theorem wIM_X0_init : Cond.instanceMethod yX0_init ∈ wB := wIn 423 (by decide +kernel) rfl
theorem wCO_X0_init : Cond.code yX0_init cX0_init 9 none ∈ wB := wIn 424 (by decide +kernel) rfl
theorem wML_X0_3 : Cond.methodLink RX0 3 objectInit ∈ wB := wIn 425 (by decide +kernel) rfl
theorem wCL_X0_18 : Cond.classLink RX0 18 RX1 ∈ wB := wIn 426 (by decide +kernel) rfl
theorem warrayOver___object__BirdParlour_Cam__ : Cond.arrayOver (.object "BirdParlour$Cam") ∈ lw_tbl := List.mem_of_getElem? (i := 427) (by decide +kernel)
theorem wIS_X1 : Cond.instantiable RX1 3 ∈ wB := wIn 428 (by decide +kernel) rfl
theorem wMN_X0_48 : Cond.methodLinkNest RX0 48 yX1_init "BirdParlour" ∈ lw_tbl := List.mem_of_getElem? (i := 429) (by decide +kernel)
theorem wIM_X1_init : Cond.instanceMethod yX1_init ∈ wB := wIn 430 (by decide +kernel) rfl
theorem wCO_X1_init : Cond.code yX1_init cX1_init 1 none ∈ wB := wIn 431 (by decide +kernel) rfl
theorem wML_X1_3 : Cond.methodLink RX1 3 objectInit ∈ wB := wIn 432 (by decide +kernel) rfl
theorem wFL_X1_9 : Cond.fieldLink RX1 9 RX1 "marks" "[I" ∈ wB := wIn 433 (by decide +kernel) rfl
theorem wFL_X1_15 : Cond.fieldLink RX1 15 RX1 "lifts" "[I" ∈ wB := wIn 434 (by decide +kernel) rfl
theorem wFL_X0_90 : Cond.fieldLink RX0 90 RX1 "lifts" "[I" ∈ wB := wIn 435 (by decide +kernel) rfl
theorem wFL_X4_226 : Cond.fieldLink RX4 226 RX1 "lifts" "[I" ∈ wB := wIn 436 (by decide +kernel) rfl
theorem wFL_X1_26 : Cond.fieldLink RX1 26 RX1 "points" "I" ∈ wB := wIn 437 (by decide +kernel) rfl
theorem wFL_X4_188 : Cond.fieldLink RX4 188 RX1 "points" "I" ∈ wB := wIn 438 (by decide +kernel) rfl
theorem wFL_X0_24 : Cond.fieldLink RX0 24 RX0 "spring" "I" ∈ wB := wIn 446 (by decide +kernel) rfl
theorem wFL_X4_131 : Cond.fieldLink RX4 131 RX0 "spring" "I" ∈ wB := wIn 447 (by decide +kernel) rfl
theorem wFL_X0_28 : Cond.fieldLink RX0 28 RX0 "weight" "I" ∈ wB := wIn 448 (by decide +kernel) rfl
theorem wFL_X4_203 : Cond.fieldLink RX4 203 RX0 "weight" "I" ∈ wB := wIn 449 (by decide +kernel) rfl
theorem wFL_X0_31 : Cond.fieldLink RX0 31 RX0 "places" "I" ∈ wB := wIn 450 (by decide +kernel) rfl
theorem wFL_X4_193 : Cond.fieldLink RX4 193 RX0 "places" "I" ∈ wB := wIn 451 (by decide +kernel) rfl
theorem wFL_X0_34 : Cond.fieldLink RX0 34 RX0 "p" "I" ∈ wB := wIn 452 (by decide +kernel) rfl
theorem wFL_X4_206 : Cond.fieldLink RX4 206 RX0 "p" "I" ∈ wB := wIn 453 (by decide +kernel) rfl
theorem wFL_X0_37 : Cond.fieldLink RX0 37 RX0 "q" "I" ∈ wB := wIn 454 (by decide +kernel) rfl
theorem wFL_X4_209 : Cond.fieldLink RX4 209 RX0 "q" "I" ∈ wB := wIn 455 (by decide +kernel) rfl
theorem wFL_X0_9 : Cond.fieldLink RX0 9 RX0 "levers" "[I" ∈ wB := wIn 456 (by decide +kernel) rfl
theorem wFL_X4_331 : Cond.fieldLink RX4 331 RX0 "levers" "[I" ∈ wB := wIn 457 (by decide +kernel) rfl
theorem wFL_X0_15 : Cond.fieldLink RX0 15 RX0 "notes" "[I" ∈ wB := wIn 458 (by decide +kernel) rfl
theorem wFL_X4_161 : Cond.fieldLink RX4 161 RX0 "notes" "[I" ∈ wB := wIn 459 (by decide +kernel) rfl
theorem wFL_X0_20 : Cond.fieldLink RX0 20 RX0 "cams" "[LBirdParlour$Cam;" ∈ wB := wIn 460 (by decide +kernel) rfl
theorem wFL_X4_150 : Cond.fieldLink RX4 150 RX0 "pins" "I" ∈ wB := wIn 461 (by decide +kernel) rfl
theorem wFL_X0_75 : Cond.fieldLink RX0 75 RX0 "pins" "I" ∈ wB := wIn 462 (by decide +kernel) rfl
theorem wFL_X0_40 : Cond.fieldLink RX0 40 RX0 "isEngaged" "Z" ∈ wB := wIn 463 (by decide +kernel) rfl
theorem wFL_X4_128 : Cond.fieldLink RX4 128 RX0 "isEngaged" "Z" ∈ wB := wIn 464 (by decide +kernel) rfl
theorem wFL_X0_44 : Cond.fieldLink RX0 44 RX0 "shaftAtStart" "J" ∈ wB := wIn 465 (by decide +kernel) rfl
theorem wFL_X0_49 : Cond.fieldLink RX0 49 RX0 "gone" "J" ∈ wB := wIn 466 (by decide +kernel) rfl
theorem wFL_X4_216 : Cond.fieldLink RX4 216 RX0 "gone" "J" ∈ wB := wIn 467 (by decide +kernel) rfl
theorem wFL_X0_55 : Cond.fieldLink RX0 55 RX0 "sounded" "I" ∈ wB := wIn 468 (by decide +kernel) rfl
theorem wFL_X4_219 : Cond.fieldLink RX4 219 RX0 "sounded" "I" ∈ wB := wIn 469 (by decide +kernel) rfl
theorem wFL_X0_52 : Cond.fieldLink RX0 52 RX0 "goneBefore" "J" ∈ wB := wIn 470 (by decide +kernel) rfl
theorem wFL_X0_58 : Cond.fieldLink RX0 58 RX0 "soundedBefore" "I" ∈ wB := wIn 471 (by decide +kernel) rfl
theorem wML_L_106 : Cond.methodLink RL 106 yL_engage ∈ wB := wIn 503 (by decide +kernel) rfl
theorem wST_L_engage : Cond.static yL_engage ∈ wB := wIn 504 (by decide +kernel) rfl
theorem wCW_L_engage : Cond.codeWith yL_engage cL_engage 5 (some .int) [(0, 17, 20, 21)] ∈ wB := wIn 505 (by decide +kernel) rfl
theorem wML_L_38 : Cond.methodLink RL 38 yX4_engage ∈ wB := wIn 506 (by decide +kernel) rfl
theorem wIM_X4_engage : Cond.instanceMethod yX4_engage ∈ wB := wIn 507 (by decide +kernel) rfl
theorem wSE_X4_X4_engage : Cond.selects RX4 yX4_engage yX4_engage ∈ wB := wIn 508 (by decide +kernel) rfl
theorem wCO_X4_engage : Cond.code yX4_engage cX4_engage 6 (some .boolean) ∈ wB := wIn 509 (by decide +kernel) rfl
theorem wML_X4_134 : Cond.methodLink RX4 134 yX0_startAnew ∈ wB := wIn 510 (by decide +kernel) rfl
theorem wIM_X0_startAnew : Cond.instanceMethod yX0_startAnew ∈ wB := wIn 511 (by decide +kernel) rfl
theorem wSE_X0_X0_startAnew : Cond.selects RX0 yX0_startAnew yX0_startAnew ∈ wB := wIn 512 (by decide +kernel) rfl
theorem wCO_X0_startAnew : Cond.code yX0_startAnew cX0_startAnew 3 none ∈ wB := wIn 513 (by decide +kernel) rfl
theorem wML_L_109 : Cond.methodLink RL 109 yL_pin ∈ wB := wIn 514 (by decide +kernel) rfl
theorem wST_L_pin : Cond.static yL_pin ∈ wB := wIn 515 (by decide +kernel) rfl
theorem wCW_L_pin : Cond.codeWith yL_pin cL_pin 6 (some .int) [(0, 12, 15, 21), (0, 12, 19, 13), (0, 12, 23, 15)] ∈ wB := wIn 516 (by decide +kernel) rfl
theorem wML_L_41 : Cond.methodLink RL 41 yX4_pin ∈ wB := wIn 517 (by decide +kernel) rfl
theorem wIM_X4_pin : Cond.instanceMethod yX4_pin ∈ wB := wIn 518 (by decide +kernel) rfl
theorem wSE_X4_X4_pin : Cond.selects RX4 yX4_pin yX4_pin ∈ wB := wIn 519 (by decide +kernel) rfl
theorem wCO_X4_pin : Cond.code yX4_pin cX4_pin 5 (some .int) ∈ wB := wIn 520 (by decide +kernel) rfl
theorem wSR_142 : Cond.stringRef RX4 142 "place is not on the barrel" ∈ lw_tbl := List.mem_of_getElem? (i := 521) (by decide +kernel)
theorem wSR_144 : Cond.stringRef RX4 144 "lever is not 0 to 5" ∈ lw_tbl := List.mem_of_getElem? (i := 522) (by decide +kernel)
theorem wML_X4_146 : Cond.methodLink RX4 146 yX0_hasPin ∈ wB := wIn 523 (by decide +kernel) rfl
theorem wIM_X0_hasPin : Cond.instanceMethod yX0_hasPin ∈ wB := wIn 524 (by decide +kernel) rfl
theorem wSE_X0_X0_hasPin : Cond.selects RX0 yX0_hasPin yX0_hasPin ∈ wB := wIn 525 (by decide +kernel) rfl
theorem wCO_X0_hasPin : Cond.code yX0_hasPin cX0_hasPin 3 (some .boolean) ∈ wB := wIn 526 (by decide +kernel) rfl
theorem wSR_153 : Cond.stringRef RX4 153 "there are 24 pins" ∈ lw_tbl := List.mem_of_getElem? (i := 527) (by decide +kernel)
theorem wML_X4_155 : Cond.methodLink RX4 155 yX0_turnPin ∈ wB := wIn 528 (by decide +kernel) rfl
theorem wIM_X0_turnPin : Cond.instanceMethod yX0_turnPin ∈ wB := wIn 529 (by decide +kernel) rfl
theorem wSE_X0_X0_turnPin : Cond.selects RX0 yX0_turnPin yX0_turnPin ∈ wB := wIn 530 (by decide +kernel) rfl
theorem wCO_X0_turnPin : Cond.code yX0_turnPin cX0_turnPin 3 none ∈ wB := wIn 531 (by decide +kernel) rfl
theorem wML_X0_78 : Cond.methodLink RX0 78 yX0_hasPin ∈ wB := wIn 532 (by decide +kernel) rfl
theorem wMN_X0_82 : Cond.methodLinkNest RX0 82 yX4_put "BirdParlour" ∈ lw_tbl := List.mem_of_getElem? (i := 533) (by decide +kernel)
theorem wST_X4_put : Cond.static yX4_put ∈ wB := wIn 534 (by decide +kernel) rfl
theorem wCO_X4_put : Cond.code yX4_put cX4_put 3 none ∈ wB := wIn 535 (by decide +kernel) rfl
theorem wML_L_113 : Cond.methodLink RL 113 yL_tune ∈ wB := wIn 536 (by decide +kernel) rfl
theorem wST_L_tune : Cond.static yL_tune ∈ wB := wIn 537 (by decide +kernel) rfl
theorem wCW_L_tune : Cond.codeWith yL_tune cL_tune 6 (some .int) [(0, 12, 15, 21), (0, 12, 19, 13)] ∈ wB := wIn 538 (by decide +kernel) rfl
theorem wML_L_45 : Cond.methodLink RL 45 yX4_tune ∈ wB := wIn 539 (by decide +kernel) rfl
theorem wIM_X4_tune : Cond.instanceMethod yX4_tune ∈ wB := wIn 540 (by decide +kernel) rfl
theorem wSE_X4_X4_tune : Cond.selects RX4 yX4_tune yX4_tune ∈ wB := wIn 541 (by decide +kernel) rfl
theorem wCO_X4_tune : Cond.code yX4_tune cX4_tune 6 (some .int) ∈ wB := wIn 542 (by decide +kernel) rfl
theorem wSR_159 : Cond.stringRef RX4 159 "note is not 0 to 87" ∈ lw_tbl := List.mem_of_getElem? (i := 543) (by decide +kernel)
theorem wML_X4_169 : Cond.methodLink RX4 169 yX4_put ∈ wB := wIn 544 (by decide +kernel) rfl
theorem wML_L_116 : Cond.methodLink RL 116 yL_point ∈ wB := wIn 545 (by decide +kernel) rfl
theorem wST_L_point : Cond.static yL_point ∈ wB := wIn 546 (by decide +kernel) rfl
theorem wCW_L_point : Cond.codeWith yL_point cL_point 7 (some .int) [(0, 14, 17, 21), (0, 14, 21, 13), (0, 14, 25, 15)] ∈ wB := wIn 547 (by decide +kernel) rfl
theorem wML_L_48 : Cond.methodLink RL 48 yX4_point ∈ wB := wIn 548 (by decide +kernel) rfl
theorem wIM_X4_point : Cond.instanceMethod yX4_point ∈ wB := wIn 549 (by decide +kernel) rfl
theorem wSE_X4_X4_point : Cond.selects RX4 yX4_point yX4_point ∈ wB := wIn 550 (by decide +kernel) rfl
theorem wCO_X4_point : Cond.code yX4_point cX4_point 8 (some .int) ∈ wB := wIn 551 (by decide +kernel) rfl
theorem wSR_179 : Cond.stringRef RX4 179 "lift is not -1 to 100" ∈ lw_tbl := List.mem_of_getElem? (i := 552) (by decide +kernel)
theorem wML_X4_181 : Cond.methodLink RX4 181 yX1_hasPoint ∈ wB := wIn 553 (by decide +kernel) rfl
theorem wIM_X1_hasPoint : Cond.instanceMethod yX1_hasPoint ∈ wB := wIn 554 (by decide +kernel) rfl
theorem wSE_X1_X1_hasPoint : Cond.selects RX1 yX1_hasPoint yX1_hasPoint ∈ wB := wIn 555 (by decide +kernel) rfl
theorem wCO_X1_hasPoint : Cond.code yX1_hasPoint cX1_hasPoint 2 (some .boolean) ∈ wB := wIn 556 (by decide +kernel) rfl
theorem wMN_X1_18 : Cond.methodLinkNest RX1 18 yX4_at "BirdParlour" ∈ lw_tbl := List.mem_of_getElem? (i := 557) (by decide +kernel)
theorem wSR_186 : Cond.stringRef RX4 186 "there is no point to take away" ∈ lw_tbl := List.mem_of_getElem? (i := 558) (by decide +kernel)
theorem wSR_191 : Cond.stringRef RX4 191 "the cam has 8 points" ∈ lw_tbl := List.mem_of_getElem? (i := 559) (by decide +kernel)
theorem wML_X4_196 : Cond.methodLink RX4 196 yX1_takePoint ∈ wB := wIn 560 (by decide +kernel) rfl
theorem wIM_X1_takePoint : Cond.instanceMethod yX1_takePoint ∈ wB := wIn 561 (by decide +kernel) rfl
theorem wSE_X1_X1_takePoint : Cond.selects RX1 yX1_takePoint yX1_takePoint ∈ wB := wIn 562 (by decide +kernel) rfl
theorem wCO_X1_takePoint : Cond.code yX1_takePoint cX1_takePoint 3 none ∈ wB := wIn 563 (by decide +kernel) rfl
theorem wML_X1_22 : Cond.methodLink RX1 22 yX1_hasPoint ∈ wB := wIn 564 (by decide +kernel) rfl
theorem wMN_X1_30 : Cond.methodLinkNest RX1 30 yX4_put "BirdParlour" ∈ lw_tbl := List.mem_of_getElem? (i := 565) (by decide +kernel)
theorem wML_X1_34 : Cond.methodLink RX1 34 yX1_draw ∈ wB := wIn 566 (by decide +kernel) rfl
theorem wIM_X1_draw : Cond.instanceMethod yX1_draw ∈ wB := wIn 567 (by decide +kernel) rfl
theorem wSE_X1_X1_draw : Cond.selects RX1 yX1_draw yX1_draw ∈ wB := wIn 568 (by decide +kernel) rfl
theorem wCO_X1_draw : Cond.code yX1_draw cX1_draw 3 none ∈ wB := wIn 569 (by decide +kernel) rfl
theorem wML_X1_38 : Cond.methodLink RX1 38 yX1_drawBehind ∈ wB := wIn 570 (by decide +kernel) rfl
theorem wIM_X1_drawBehind : Cond.instanceMethod yX1_drawBehind ∈ wB := wIn 571 (by decide +kernel) rfl
theorem wSE_X1_X1_drawBehind : Cond.selects RX1 yX1_drawBehind yX1_drawBehind ∈ wB := wIn 572 (by decide +kernel) rfl
theorem wCO_X1_drawBehind : Cond.code yX1_drawBehind cX1_drawBehind 7 none ∈ wB := wIn 573 (by decide +kernel) rfl
theorem wMN_X1_42 : Cond.methodLinkNest RX1 42 yX4_remainder "BirdParlour" ∈ lw_tbl := List.mem_of_getElem? (i := 574) (by decide +kernel)
theorem wST_X4_remainder : Cond.static yX4_remainder ∈ wB := wIn 575 (by decide +kernel) rfl
theorem wCO_X4_remainder : Cond.code yX4_remainder cX4_remainder 2 (some .int) ∈ wB := wIn 576 (by decide +kernel) rfl
theorem wML_X1_46 : Cond.methodLink RX1 46 yJ9_floorDiv_7cf53 ∈ wB := wIn 577 (by decide +kernel) rfl
theorem wST_J9_floorDiv_7cf53 : Cond.static yJ9_floorDiv_7cf53 ∈ wB := wIn 578 (by decide +kernel) rfl
theorem wCO_J9_floorDiv_7cf53 : Cond.code yJ9_floorDiv_7cf53 cJ9_floorDiv_7cf53 3 (some .int) ∈ wB := wIn 579 (by decide +kernel) rfl
theorem wML_X4_199 : Cond.methodLink RX4 199 yX1_layPoint ∈ wB := wIn 580 (by decide +kernel) rfl
theorem wIM_X1_layPoint : Cond.instanceMethod yX1_layPoint ∈ wB := wIn 581 (by decide +kernel) rfl
theorem wSE_X1_X1_layPoint : Cond.selects RX1 yX1_layPoint yX1_layPoint ∈ wB := wIn 582 (by decide +kernel) rfl
theorem wCO_X1_layPoint : Cond.code yX1_layPoint cX1_layPoint 4 none ∈ wB := wIn 583 (by decide +kernel) rfl
theorem wML_L_120 : Cond.methodLink RL 120 yL_bird ∈ wB := wIn 584 (by decide +kernel) rfl
theorem wST_L_bird : Cond.static yL_bird ∈ wB := wIn 585 (by decide +kernel) rfl
theorem wCW_L_bird : Cond.codeWith yL_bird cL_bird 5 (some .int) [(0, 10, 13, 21)] ∈ wB := wIn 586 (by decide +kernel) rfl
theorem wML_L_52 : Cond.methodLink RL 52 yX4_bird ∈ wB := wIn 587 (by decide +kernel) rfl
theorem wML_L_123 : Cond.methodLink RL 123 yL_lift ∈ wB := wIn 588 (by decide +kernel) rfl
theorem wST_L_lift : Cond.static yL_lift ∈ wB := wIn 589 (by decide +kernel) rfl
theorem wCW_L_lift : Cond.codeWith yL_lift cL_lift 6 (some .int) [(0, 12, 15, 21), (0, 12, 19, 13)] ∈ wB := wIn 590 (by decide +kernel) rfl
theorem wML_L_55 : Cond.methodLink RL 55 yX4_lift ∈ wB := wIn 591 (by decide +kernel) rfl
theorem wML_L_126 : Cond.methodLink RL 126 yL_run ∈ wB := wIn 592 (by decide +kernel) rfl
theorem wST_L_run : Cond.static yL_run ∈ wB := wIn 593 (by decide +kernel) rfl
theorem wCW_L_run : Cond.codeWith yL_run cL_run 4 (some .int) [(0, 9, 12, 13)] ∈ wB := wIn 594 (by decide +kernel) rfl
theorem wML_L_58 : Cond.methodLink RL 58 yX4_run ∈ wB := wIn 595 (by decide +kernel) rfl
theorem wIM_X4_run : Cond.instanceMethod yX4_run ∈ wB := wIn 596 (by decide +kernel) rfl
theorem wSE_X4_X4_run : Cond.selects RX4 yX4_run yX4_run ∈ wB := wIn 597 (by decide +kernel) rfl
theorem wCO_X4_run : Cond.code yX4_run cX4_run 4 (some .int) ∈ wB := wIn 598 (by decide +kernel) rfl
theorem wSR_229 : Cond.stringRef RX4 229 "ticks is not 1 to 500" ∈ lw_tbl := List.mem_of_getElem? (i := 599) (by decide +kernel)
theorem wML_X4_231 : Cond.methodLink RX4 231 yX4_goOneTick ∈ wB := wIn 600 (by decide +kernel) rfl
theorem wPM_X4_goOneTick : Cond.privateMethod yX4_goOneTick ∈ lw_tbl := List.mem_of_getElem? (i := 601) (by decide +kernel)
theorem wIM_X4_goOneTick : Cond.instanceMethod yX4_goOneTick ∈ wB := wIn 602 (by decide +kernel) rfl
theorem wCO_X4_goOneTick : Cond.code yX4_goOneTick cX4_goOneTick 4 (some .int) ∈ wB := wIn 603 (by decide +kernel) rfl
theorem wML_X4_297 : Cond.methodLink RX4 297 yX4_shareBetweenCoupled ∈ wB := wIn 604 (by decide +kernel) rfl
theorem wPM_X4_shareBetweenCoupled : Cond.privateMethod yX4_shareBetweenCoupled ∈ lw_tbl := List.mem_of_getElem? (i := 605) (by decide +kernel)
theorem wIM_X4_shareBetweenCoupled : Cond.instanceMethod yX4_shareBetweenCoupled ∈ wB := wIn 606 (by decide +kernel) rfl
theorem wCO_X4_shareBetweenCoupled : Cond.code yX4_shareBetweenCoupled cX4_shareBetweenCoupled 3 none ∈ wB := wIn 607 (by decide +kernel) rfl
theorem wML_X4_304 : Cond.methodLink RX4 304 yX4_shareBetween ∈ wB := wIn 608 (by decide +kernel) rfl
theorem wST_X4_shareBetween : Cond.static yX4_shareBetween ∈ wB := wIn 609 (by decide +kernel) rfl
theorem wCO_X4_shareBetween : Cond.code yX4_shareBetween cX4_shareBetween 3 none ∈ wB := wIn 610 (by decide +kernel) rfl
theorem wML_X4_300 : Cond.methodLink RX4 300 yX4_goShaft ∈ wB := wIn 611 (by decide +kernel) rfl
theorem wPM_X4_goShaft : Cond.privateMethod yX4_goShaft ∈ lw_tbl := List.mem_of_getElem? (i := 612) (by decide +kernel)
theorem wIM_X4_goShaft : Cond.instanceMethod yX4_goShaft ∈ wB := wIn 613 (by decide +kernel) rfl
theorem wCO_X4_goShaft : Cond.code yX4_goShaft cX4_goShaft 6 (some .int) ∈ wB := wIn 614 (by decide +kernel) rfl
theorem wML_X4_308 : Cond.methodLink RX4 308 yX3_speedUnder ∈ wB := wIn 615 (by decide +kernel) rfl
theorem wIM_X3_speedUnder : Cond.instanceMethod yX3_speedUnder ∈ wB := wIn 616 (by decide +kernel) rfl
theorem wSE_X3_X3_speedUnder : Cond.selects RX3 yX3_speedUnder yX3_speedUnder ∈ wB := wIn 617 (by decide +kernel) rfl
theorem wCO_X3_speedUnder : Cond.code yX3_speedUnder cX3_speedUnder 4 (some .int) ∈ wB := wIn 618 (by decide +kernel) rfl
theorem wML_X3_34 : Cond.methodLink RX3 34 Lib.Math.max.name ∈ wB := wIn 619 (by decide +kernel) rfl
theorem wML_X3_40 : Cond.methodLink RX3 40 Lib.Math.min.name ∈ wB := wIn 620 (by decide +kernel) rfl
theorem wML_X4_311 : Cond.methodLink RX4 311 yX3_turn ∈ wB := wIn 621 (by decide +kernel) rfl
theorem wIM_X3_turn : Cond.instanceMethod yX3_turn ∈ wB := wIn 622 (by decide +kernel) rfl
theorem wSE_X3_X3_turn : Cond.selects RX3 yX3_turn yX3_turn ∈ wB := wIn 623 (by decide +kernel) rfl
theorem wCO_X3_turn : Cond.code yX3_turn cX3_turn 2 none ∈ wB := wIn 624 (by decide +kernel) rfl
theorem wML_X4_317 : Cond.methodLink RX4 317 yX4_goBarrel ∈ wB := wIn 625 (by decide +kernel) rfl
theorem wPM_X4_goBarrel : Cond.privateMethod yX4_goBarrel ∈ lw_tbl := List.mem_of_getElem? (i := 626) (by decide +kernel)
theorem wIM_X4_goBarrel : Cond.instanceMethod yX4_goBarrel ∈ wB := wIn 627 (by decide +kernel) rfl
theorem wCO_X4_goBarrel : Cond.code yX4_goBarrel cX4_goBarrel 10 (some .int) ∈ wB := wIn 628 (by decide +kernel) rfl
theorem wML_X4_321 : Cond.methodLink RX4 321 yX0_goneWhen ∈ wB := wIn 629 (by decide +kernel) rfl
theorem wIM_X0_goneWhen : Cond.instanceMethod yX0_goneWhen ∈ wB := wIn 630 (by decide +kernel) rfl
theorem wSE_X0_X0_goneWhen : Cond.selects RX0 yX0_goneWhen yX0_goneWhen ∈ wB := wIn 631 (by decide +kernel) rfl
theorem wCO_X0_goneWhen : Cond.code yX0_goneWhen cX0_goneWhen 5 (some .long) ∈ wB := wIn 632 (by decide +kernel) rfl
theorem wconstantLong_X0_61 : Cond.constantLong RX0 61 1000 ∈ wB := wIn 633 (by decide +kernel) rfl
theorem wML_X4_325 : Cond.methodLink RX4 325 Lib.MathLoose.min_long.x ∈ wB := wIn 634 (by decide +kernel) rfl
theorem wST_J9_min_f86c9 : Cond.static Lib.MathLoose.min_long.x ∈ wB := wIn 635 (by decide +kernel) rfl
theorem wCO_J9_min_f86c9 : Cond.code Lib.MathLoose.min_long.x Lib.MathLoose.min_long.code 4 (some .long) ∈ wB := wIn 636 (by decide +kernel) rfl
theorem wML_X4_328 : Cond.methodLink RX4 328 yX0_placeWhenGone ∈ wB := wIn 637 (by decide +kernel) rfl
theorem wML_X4_334 : Cond.methodLink RX4 334 yX4_soundPlace ∈ wB := wIn 638 (by decide +kernel) rfl
theorem wPM_X4_soundPlace : Cond.privateMethod yX4_soundPlace ∈ lw_tbl := List.mem_of_getElem? (i := 639) (by decide +kernel)
theorem wIM_X4_soundPlace : Cond.instanceMethod yX4_soundPlace ∈ wB := wIn 640 (by decide +kernel) rfl
theorem wCO_X4_soundPlace : Cond.code yX4_soundPlace cX4_soundPlace 7 (some .int) ∈ wB := wIn 641 (by decide +kernel) rfl
theorem wML_X4_338 : Cond.methodLink RX4 338 yX3_payForNote ∈ wB := wIn 642 (by decide +kernel) rfl
theorem wIM_X3_payForNote : Cond.instanceMethod yX3_payForNote ∈ wB := wIn 643 (by decide +kernel) rfl
theorem wSE_X3_X3_payForNote : Cond.selects RX3 yX3_payForNote yX3_payForNote ∈ wB := wIn 644 (by decide +kernel) rfl
theorem wCO_X3_payForNote : Cond.code yX3_payForNote cX3_payForNote 1 none ∈ wB := wIn 645 (by decide +kernel) rfl
theorem wML_X4_341 : Cond.methodLink RX4 341 yX2_hear ∈ wB := wIn 646 (by decide +kernel) rfl
theorem wIM_X2_hear : Cond.instanceMethod yX2_hear ∈ wB := wIn 647 (by decide +kernel) rfl
theorem wSE_X2_X2_hear : Cond.selects RX2 yX2_hear yX2_hear ∈ wB := wIn 648 (by decide +kernel) rfl
theorem wCO_X2_hear : Cond.code yX2_hear cX2_hear 6 none ∈ wB := wIn 649 (by decide +kernel) rfl
theorem wMN_X2_28 : Cond.methodLinkNest RX2 28 yX4_put "BirdParlour" ∈ lw_tbl := List.mem_of_getElem? (i := 650) (by decide +kernel)
theorem wML_L_129 : Cond.methodLink RL 129 yL_count ∈ wB := wIn 651 (by decide +kernel) rfl
theorem wST_L_count : Cond.static yL_count ∈ wB := wIn 652 (by decide +kernel) rfl
theorem wCW_L_count : Cond.codeWith yL_count cL_count 4 (some .int) [(0, 9, 12, 21)] ∈ wB := wIn 653 (by decide +kernel) rfl
theorem wML_L_61 : Cond.methodLink RL 61 yX4_count ∈ wB := wIn 654 (by decide +kernel) rfl
theorem wML_L_132 : Cond.methodLink RL 132 yL_sung ∈ wB := wIn 655 (by decide +kernel) rfl
theorem wST_L_sung : Cond.static yL_sung ∈ wB := wIn 656 (by decide +kernel) rfl
theorem wCW_L_sung : Cond.codeWith yL_sung cL_sung 5 (some .int) [(0, 10, 13, 21)] ∈ wB := wIn 657 (by decide +kernel) rfl
theorem wML_L_64 : Cond.methodLink RL 64 yX4_sung ∈ wB := wIn 658 (by decide +kernel) rfl
theorem wML_L_135 : Cond.methodLink RL 135 yL_chord ∈ wB := wIn 659 (by decide +kernel) rfl
theorem wST_L_chord : Cond.static yL_chord ∈ wB := wIn 660 (by decide +kernel) rfl
theorem wCW_L_chord : Cond.codeWith yL_chord cL_chord 4 (some .int) [(0, 9, 12, 13)] ∈ wB := wIn 661 (by decide +kernel) rfl
theorem wML_L_67 : Cond.methodLink RL 67 yX4_chord ∈ wB := wIn 662 (by decide +kernel) rfl
theorem wIM_X4_chord : Cond.instanceMethod yX4_chord ∈ wB := wIn 663 (by decide +kernel) rfl
theorem wSE_X4_X4_chord : Cond.selects RX4 yX4_chord yX4_chord ∈ wB := wIn 664 (by decide +kernel) rfl
theorem wCO_X4_chord : Cond.code yX4_chord cX4_chord 8 (some .int) ∈ wB := wIn 665 (by decide +kernel) rfl
theorem wSR_255 : Cond.stringRef RX4 255 "tick is less than 0" ∈ lw_tbl := List.mem_of_getElem? (i := 666) (by decide +kernel)
theorem wML_X4_257 : Cond.methodLink RX4 257 yJ13_bitCount_95d88 ∈ wB := wIn 667 (by decide +kernel) rfl
theorem wST_J13_bitCount_95d88 : Cond.static yJ13_bitCount_95d88 ∈ wB := wIn 668 (by decide +kernel) rfl
theorem wCO_J13_bitCount_95d88 : Cond.code yJ13_bitCount_95d88 cJ13_bitCount_95d88 2 (some .int) ∈ wB := wIn 669 (by decide +kernel) rfl
theorem wconstantLong_J13_314 : Cond.constantLong RJ13 314 6148914691236517205 ∈ wB := wIn 670 (by decide +kernel) rfl
theorem wconstantLong_J13_316 : Cond.constantLong RJ13 316 3689348814741910323 ∈ wB := wIn 671 (by decide +kernel) rfl
theorem wconstantLong_J13_318 : Cond.constantLong RJ13 318 1085102592571150095 ∈ wB := wIn 672 (by decide +kernel) rfl
theorem wML_L_146 : Cond.methodLink RL 146 yL_runsDown ∈ wB := wIn 673 (by decide +kernel) rfl
theorem wST_L_runsDown : Cond.static yL_runsDown ∈ wB := wIn 674 (by decide +kernel) rfl
theorem wCW_L_runsDown : Cond.codeWith yL_runsDown cL_runsDown 4 (some .int) [(0, 9, 12, 13)] ∈ wB := wIn 675 (by decide +kernel) rfl
theorem wML_L_70 : Cond.methodLink RL 70 yX4_runsDown ∈ wB := wIn 676 (by decide +kernel) rfl
theorem wIM_X4_runsDown : Cond.instanceMethod yX4_runsDown ∈ wB := wIn 677 (by decide +kernel) rfl
theorem wSE_X4_X4_runsDown : Cond.selects RX4 yX4_runsDown yX4_runsDown ∈ wB := wIn 678 (by decide +kernel) rfl
theorem wCO_X4_runsDown : Cond.code yX4_runsDown cX4_runsDown 5 (some .int) ∈ wB := wIn 679 (by decide +kernel) rfl
theorem wSR_268 : Cond.stringRef RX4 268 "most is not 1 to 2000" ∈ lw_tbl := List.mem_of_getElem? (i := 680) (by decide +kernel)
theorem wML_X4_270 : Cond.methodLink RX4 270 yX4_rememberAll ∈ wB := wIn 681 (by decide +kernel) rfl
theorem wPM_X4_rememberAll : Cond.privateMethod yX4_rememberAll ∈ lw_tbl := List.mem_of_getElem? (i := 682) (by decide +kernel)
theorem wIM_X4_rememberAll : Cond.instanceMethod yX4_rememberAll ∈ wB := wIn 683 (by decide +kernel) rfl
theorem wCO_X4_rememberAll : Cond.code yX4_rememberAll cX4_rememberAll 5 none ∈ wB := wIn 684 (by decide +kernel) rfl
theorem wML_X4_348 : Cond.methodLink RX4 348 yX3_remember ∈ wB := wIn 685 (by decide +kernel) rfl
theorem wIM_X3_remember : Cond.instanceMethod yX3_remember ∈ wB := wIn 686 (by decide +kernel) rfl
theorem wSE_X3_X3_remember : Cond.selects RX3 yX3_remember yX3_remember ∈ wB := wIn 687 (by decide +kernel) rfl
theorem wCO_X3_remember : Cond.code yX3_remember cX3_remember 1 none ∈ wB := wIn 688 (by decide +kernel) rfl
theorem wML_X4_351 : Cond.methodLink RX4 351 yX0_remember ∈ wB := wIn 689 (by decide +kernel) rfl
theorem wIM_X0_remember : Cond.instanceMethod yX0_remember ∈ wB := wIn 690 (by decide +kernel) rfl
theorem wSE_X0_X0_remember : Cond.selects RX0 yX0_remember yX0_remember ∈ wB := wIn 691 (by decide +kernel) rfl
theorem wCO_X0_remember : Cond.code yX0_remember cX0_remember 1 none ∈ wB := wIn 692 (by decide +kernel) rfl
theorem wML_X4_352 : Cond.methodLink RX4 352 yX2_remember ∈ wB := wIn 693 (by decide +kernel) rfl
theorem wIM_X2_remember : Cond.instanceMethod yX2_remember ∈ wB := wIn 694 (by decide +kernel) rfl
theorem wSE_X2_X2_remember : Cond.selects RX2 yX2_remember yX2_remember ∈ wB := wIn 695 (by decide +kernel) rfl
theorem wCO_X2_remember : Cond.code yX2_remember cX2_remember 1 none ∈ wB := wIn 696 (by decide +kernel) rfl
theorem wML_X4_273 : Cond.methodLink RX4 273 yX4_areAllDown ∈ wB := wIn 697 (by decide +kernel) rfl
theorem wPM_X4_areAllDown : Cond.privateMethod yX4_areAllDown ∈ lw_tbl := List.mem_of_getElem? (i := 698) (by decide +kernel)
theorem wIM_X4_areAllDown : Cond.instanceMethod yX4_areAllDown ∈ wB := wIn 699 (by decide +kernel) rfl
theorem wCO_X4_areAllDown : Cond.code yX4_areAllDown cX4_areAllDown 5 (some .boolean) ∈ wB := wIn 700 (by decide +kernel) rfl
theorem wML_X4_277 : Cond.methodLink RX4 277 yX4_recallAll ∈ wB := wIn 701 (by decide +kernel) rfl
theorem wPM_X4_recallAll : Cond.privateMethod yX4_recallAll ∈ lw_tbl := List.mem_of_getElem? (i := 702) (by decide +kernel)
theorem wIM_X4_recallAll : Cond.instanceMethod yX4_recallAll ∈ wB := wIn 703 (by decide +kernel) rfl
theorem wCO_X4_recallAll : Cond.code yX4_recallAll cX4_recallAll 5 none ∈ wB := wIn 704 (by decide +kernel) rfl
theorem wML_X4_353 : Cond.methodLink RX4 353 yX3_recall ∈ wB := wIn 705 (by decide +kernel) rfl
theorem wIM_X3_recall : Cond.instanceMethod yX3_recall ∈ wB := wIn 706 (by decide +kernel) rfl
theorem wSE_X3_X3_recall : Cond.selects RX3 yX3_recall yX3_recall ∈ wB := wIn 707 (by decide +kernel) rfl
theorem wCO_X3_recall : Cond.code yX3_recall cX3_recall 1 none ∈ wB := wIn 708 (by decide +kernel) rfl
theorem wML_X4_356 : Cond.methodLink RX4 356 yX0_recall ∈ wB := wIn 709 (by decide +kernel) rfl
theorem wIM_X0_recall : Cond.instanceMethod yX0_recall ∈ wB := wIn 710 (by decide +kernel) rfl
theorem wSE_X0_X0_recall : Cond.selects RX0 yX0_recall yX0_recall ∈ wB := wIn 711 (by decide +kernel) rfl
theorem wCO_X0_recall : Cond.code yX0_recall cX0_recall 1 none ∈ wB := wIn 712 (by decide +kernel) rfl
theorem wML_X4_357 : Cond.methodLink RX4 357 yX2_recall ∈ wB := wIn 713 (by decide +kernel) rfl
theorem wIM_X2_recall : Cond.instanceMethod yX2_recall ∈ wB := wIn 714 (by decide +kernel) rfl
theorem wSE_X2_X2_recall : Cond.selects RX2 yX2_recall yX2_recall ∈ wB := wIn 715 (by decide +kernel) rfl
theorem wCO_X2_recall : Cond.code yX2_recall cX2_recall 1 none ∈ wB := wIn 716 (by decide +kernel) rfl
theorem wCL_L_74 : Cond.classLink RL 74 RX5 ∈ wB := wIn 717 (by decide +kernel) rfl
theorem wIS_X5 : Cond.instantiable RX5 16 ∈ wB := wIn 718 (by decide +kernel) rfl
theorem wML_L_76 : Cond.methodLink RL 76 yX5_init ∈ wB := wIn 719 (by decide +kernel) rfl
theorem wIM_X5_init : Cond.instanceMethod yX5_init ∈ wB := wIn 720 (by decide +kernel) rfl
theorem wCO_X5_init : Cond.code yX5_init cX5_init 1 none ∈ wB := wIn 721 (by decide +kernel) rfl
theorem wML_X5_1 : Cond.methodLink RX5 1 objectInit ∈ wB := wIn 722 (by decide +kernel) rfl
theorem wFL_X5_38 : Cond.fieldLink RX5 38 RX5 "thrown" "I" ∈ wB := wIn 723 (by decide +kernel) rfl
theorem wFL_X5_122 : Cond.fieldLink RX5 122 RX5 "tick" "I" ∈ wB := wIn 724 (by decide +kernel) rfl
theorem wFL_X5_42 : Cond.fieldLink RX5 42 RX5 "springs" "I" ∈ wB := wIn 725 (by decide +kernel) rfl
theorem wFL_X5_49 : Cond.fieldLink RX5 49 RX5 "birds" "I" ∈ wB := wIn 726 (by decide +kernel) rfl
theorem wFL_X5_9 : Cond.fieldLink RX5 9 RX5 "springTable" "[I" ∈ wB := wIn 727 (by decide +kernel) rfl
theorem wFL_X5_13 : Cond.fieldLink RX5 13 RX5 "birdTable" "[I" ∈ wB := wIn 728 (by decide +kernel) rfl
theorem wFL_X5_16 : Cond.fieldLink RX5 16 RX5 "coupled" "[Z" ∈ wB := wIn 729 (by decide +kernel) rfl
theorem wFL_X5_20 : Cond.fieldLink RX5 20 RX5 "pins" "[I" ∈ wB := wIn 730 (by decide +kernel) rfl
theorem wFL_X5_23 : Cond.fieldLink RX5 23 RX5 "notes" "[I" ∈ wB := wIn 731 (by decide +kernel) rfl
theorem wFL_X5_26 : Cond.fieldLink RX5 26 RX5 "cams" "[I" ∈ wB := wIn 732 (by decide +kernel) rfl
theorem wFL_X5_116 : Cond.fieldLink RX5 116 RX5 "sounded" "I" ∈ wB := wIn 733 (by decide +kernel) rfl
theorem wFL_X5_119 : Cond.fieldLink RX5 119 RX5 "kept" "I" ∈ wB := wIn 734 (by decide +kernel) rfl
theorem wFL_X5_29 : Cond.fieldLink RX5 29 RX5 "songs" "[I" ∈ wB := wIn 735 (by decide +kernel) rfl
theorem wFL_X5_112 : Cond.fieldLink RX5 112 RX5 "isAhead" "Z" ∈ wB := wIn 736 (by decide +kernel) rfl
theorem wFL_X5_32 : Cond.fieldLink RX5 32 RX5 "spareSprings" "[I" ∈ wB := wIn 737 (by decide +kernel) rfl
theorem wFL_X5_35 : Cond.fieldLink RX5 35 RX5 "spareBirds" "[I" ∈ wB := wIn 738 (by decide +kernel) rfl
theorem warrayClass__boolean : Cond.arrayClass .boolean ∈ wB := wIn 772 (by decide +kernel) rfl
theorem wML_L_83 : Cond.methodLink RL 83 yX5_thrown ∈ wB := wIn 773 (by decide +kernel) rfl
theorem wIM_X5_thrown : Cond.instanceMethod yX5_thrown ∈ wB := wIn 774 (by decide +kernel) rfl
theorem wSE_X5_X5_thrown : Cond.selects RX5 yX5_thrown yX5_thrown ∈ wB := wIn 775 (by decide +kernel) rfl
theorem wCO_X5_thrown : Cond.code yX5_thrown cX5_thrown 1 (some .int) ∈ wB := wIn 776 (by decide +kernel) rfl
theorem wML_L_82 : Cond.methodLink RL 82 yX5_addSpring ∈ wB := wIn 777 (by decide +kernel) rfl
theorem wIM_X5_addSpring : Cond.instanceMethod yX5_addSpring ∈ wB := wIn 778 (by decide +kernel) rfl
theorem wSE_X5_X5_addSpring : Cond.selects RX5 yX5_addSpring yX5_addSpring ∈ wB := wIn 779 (by decide +kernel) rfl
theorem wCO_X5_addSpring : Cond.code yX5_addSpring cX5_addSpring 2 (some .int) ∈ wB := wIn 780 (by decide +kernel) rfl
theorem wML_X5_45 : Cond.methodLink RX5 45 yX5_isIn ∈ wB := wIn 781 (by decide +kernel) rfl
theorem wST_X5_isIn : Cond.static yX5_isIn ∈ wB := wIn 782 (by decide +kernel) rfl
theorem wCO_X5_isIn : Cond.code yX5_isIn cX5_isIn 3 (some .boolean) ∈ wB := wIn 783 (by decide +kernel) rfl
theorem wML_X5_52 : Cond.methodLink RX5 52 yX5_fail ∈ wB := wIn 784 (by decide +kernel) rfl
theorem wPM_X5_fail : Cond.privateMethod yX5_fail ∈ lw_tbl := List.mem_of_getElem? (i := 785) (by decide +kernel)
theorem wIM_X5_fail : Cond.instanceMethod yX5_fail ∈ wB := wIn 786 (by decide +kernel) rfl
theorem wCO_X5_fail : Cond.code yX5_fail cX5_fail 2 (some .int) ∈ wB := wIn 787 (by decide +kernel) rfl
theorem wML_L_90 : Cond.methodLink RL 90 yX5_wind ∈ wB := wIn 788 (by decide +kernel) rfl
theorem wIM_X5_wind : Cond.instanceMethod yX5_wind ∈ wB := wIn 789 (by decide +kernel) rfl
theorem wSE_X5_X5_wind : Cond.selects RX5 yX5_wind yX5_wind ∈ wB := wIn 790 (by decide +kernel) rfl
theorem wCO_X5_wind : Cond.code yX5_wind cX5_wind 4 (some .int) ∈ wB := wIn 791 (by decide +kernel) rfl
theorem wML_X5_56 : Cond.methodLink RX5 56 yX5_isSpring ∈ wB := wIn 792 (by decide +kernel) rfl
theorem wPM_X5_isSpring : Cond.privateMethod yX5_isSpring ∈ lw_tbl := List.mem_of_getElem? (i := 793) (by decide +kernel)
theorem wIM_X5_isSpring : Cond.instanceMethod yX5_isSpring ∈ wB := wIn 794 (by decide +kernel) rfl
theorem wCO_X5_isSpring : Cond.code yX5_isSpring cX5_isSpring 2 (some .boolean) ∈ wB := wIn 795 (by decide +kernel) rfl
theorem wconstant_X5_60 : Cond.constant RX5 60 200000 ∈ wB := wIn 796 (by decide +kernel) rfl
theorem wML_X5_61 : Cond.methodLink RX5 61 Lib.Math.min.name ∈ wB := wIn 797 (by decide +kernel) rfl
theorem wML_L_94 : Cond.methodLink RL 94 yX5_brake ∈ wB := wIn 798 (by decide +kernel) rfl
theorem wIM_X5_brake : Cond.instanceMethod yX5_brake ∈ wB := wIn 799 (by decide +kernel) rfl
theorem wSE_X5_X5_brake : Cond.selects RX5 yX5_brake yX5_brake ∈ wB := wIn 800 (by decide +kernel) rfl
theorem wCO_X5_brake : Cond.code yX5_brake cX5_brake 4 (some .boolean) ∈ wB := wIn 801 (by decide +kernel) rfl
theorem wML_X5_67 : Cond.methodLink RX5 67 yX5_sp ∈ wB := wIn 802 (by decide +kernel) rfl
theorem wPM_X5_sp : Cond.privateMethod yX5_sp ∈ lw_tbl := List.mem_of_getElem? (i := 803) (by decide +kernel)
theorem wIM_X5_sp : Cond.instanceMethod yX5_sp ∈ wB := wIn 804 (by decide +kernel) rfl
theorem wCO_X5_sp : Cond.code yX5_sp cX5_sp 3 (some .int) ∈ wB := wIn 805 (by decide +kernel) rfl
theorem wML_L_98 : Cond.methodLink RL 98 yX5_couple ∈ wB := wIn 806 (by decide +kernel) rfl
theorem wIM_X5_couple : Cond.instanceMethod yX5_couple ∈ wB := wIn 807 (by decide +kernel) rfl
theorem wSE_X5_X5_couple : Cond.selects RX5 yX5_couple yX5_couple ∈ wB := wIn 808 (by decide +kernel) rfl
theorem wCO_X5_couple : Cond.code yX5_couple cX5_couple 4 (some .int) ∈ wB := wIn 809 (by decide +kernel) rfl
theorem wML_X5_70 : Cond.methodLink RX5 70 Lib.Math.max.name ∈ wB := wIn 810 (by decide +kernel) rfl
theorem wML_X5_73 : Cond.methodLink RX5 73 yX5_pairs ∈ wB := wIn 811 (by decide +kernel) rfl
theorem wPM_X5_pairs : Cond.privateMethod yX5_pairs ∈ lw_tbl := List.mem_of_getElem? (i := 812) (by decide +kernel)
theorem wIM_X5_pairs : Cond.instanceMethod yX5_pairs ∈ wB := wIn 813 (by decide +kernel) rfl
theorem wCO_X5_pairs : Cond.code yX5_pairs cX5_pairs 3 (some .int) ∈ wB := wIn 814 (by decide +kernel) rfl
theorem wML_L_101 : Cond.methodLink RL 101 yX5_spring ∈ wB := wIn 815 (by decide +kernel) rfl
theorem wIM_X5_spring : Cond.instanceMethod yX5_spring ∈ wB := wIn 816 (by decide +kernel) rfl
theorem wSE_X5_X5_spring : Cond.selects RX5 yX5_spring yX5_spring ∈ wB := wIn 817 (by decide +kernel) rfl
theorem wCO_X5_spring : Cond.code yX5_spring cX5_spring 3 (some .int) ∈ wB := wIn 818 (by decide +kernel) rfl
theorem wML_X5_87 : Cond.methodLink RX5 87 yX5_springTold ∈ wB := wIn 819 (by decide +kernel) rfl
theorem wPM_X5_springTold : Cond.privateMethod yX5_springTold ∈ lw_tbl := List.mem_of_getElem? (i := 820) (by decide +kernel)
theorem wIM_X5_springTold : Cond.instanceMethod yX5_springTold ∈ wB := wIn 821 (by decide +kernel) rfl
theorem wCO_X5_springTold : Cond.code yX5_springTold cX5_springTold 5 (some .int) ∈ wB := wIn 822 (by decide +kernel) rfl
theorem wML_X5_84 : Cond.methodLink RX5 84 yX5_load ∈ wB := wIn 823 (by decide +kernel) rfl
theorem wPM_X5_load : Cond.privateMethod yX5_load ∈ lw_tbl := List.mem_of_getElem? (i := 824) (by decide +kernel)
theorem wIM_X5_load : Cond.instanceMethod yX5_load ∈ wB := wIn 825 (by decide +kernel) rfl
theorem wCO_X5_load : Cond.code yX5_load cX5_load 6 (some .int) ∈ wB := wIn 826 (by decide +kernel) rfl
theorem wML_X5_77 : Cond.methodLink RX5 77 yX5_get ∈ wB := wIn 827 (by decide +kernel) rfl
theorem wPM_X5_get : Cond.privateMethod yX5_get ∈ lw_tbl := List.mem_of_getElem? (i := 828) (by decide +kernel)
theorem wIM_X5_get : Cond.instanceMethod yX5_get ∈ wB := wIn 829 (by decide +kernel) rfl
theorem wCO_X5_get : Cond.code yX5_get cX5_get 3 (some .int) ∈ wB := wIn 830 (by decide +kernel) rfl
theorem wML_X5_80 : Cond.methodLink RX5 80 yX5_liftAt ∈ wB := wIn 831 (by decide +kernel) rfl
theorem wPM_X5_liftAt : Cond.privateMethod yX5_liftAt ∈ lw_tbl := List.mem_of_getElem? (i := 832) (by decide +kernel)
theorem wIM_X5_liftAt : Cond.instanceMethod yX5_liftAt ∈ wB := wIn 833 (by decide +kernel) rfl
theorem wCO_X5_liftAt : Cond.code yX5_liftAt cX5_liftAt 10 (some .int) ∈ wB := wIn 834 (by decide +kernel) rfl
theorem wML_X5_103 : Cond.methodLink RX5 103 yX5_cam ∈ wB := wIn 835 (by decide +kernel) rfl
theorem wST_X5_cam : Cond.static yX5_cam ∈ wB := wIn 836 (by decide +kernel) rfl
theorem wCO_X5_cam : Cond.code yX5_cam cX5_cam 2 (some .int) ∈ wB := wIn 837 (by decide +kernel) rfl
theorem wML_X5_109 : Cond.methodLink RX5 109 yJ9_floorDiv_7cf53 ∈ wB := wIn 838 (by decide +kernel) rfl
theorem wML_L_105 : Cond.methodLink RL 105 yX5_addBird ∈ wB := wIn 839 (by decide +kernel) rfl
theorem wIM_X5_addBird : Cond.instanceMethod yX5_addBird ∈ wB := wIn 840 (by decide +kernel) rfl
theorem wSE_X5_X5_addBird : Cond.selects RX5 yX5_addBird yX5_addBird ∈ wB := wIn 841 (by decide +kernel) rfl
theorem wCO_X5_addBird : Cond.code yX5_addBird cX5_addBird 8 (some .int) ∈ wB := wIn 842 (by decide +kernel) rfl
theorem wML_X5_90 : Cond.methodLink RX5 90 arraycopyName ∈ wB := wIn 843 (by decide +kernel) rfl
theorem wST_java_lang_System_arraycopy__Ljava_lang_Object_ILjava_lang_Object_II_V : Cond.static arraycopyName ∈ wB := wIn 844 (by decide +kernel) rfl
theorem wNA_java_lang_System_arraycopy__Ljava_lang_Object_ILjava_lang_Object_II_V : Cond.native arraycopyName ∈ lw_tbl := List.mem_of_getElem? (i := 845) (by decide +kernel)
theorem wML_L_108 : Cond.methodLink RL 108 yX5_engage ∈ wB := wIn 846 (by decide +kernel) rfl
theorem wIM_X5_engage : Cond.instanceMethod yX5_engage ∈ wB := wIn 847 (by decide +kernel) rfl
theorem wSE_X5_X5_engage : Cond.selects RX5 yX5_engage yX5_engage ∈ wB := wIn 848 (by decide +kernel) rfl
theorem wCO_X5_engage : Cond.code yX5_engage cX5_engage 4 (some .boolean) ∈ wB := wIn 849 (by decide +kernel) rfl
theorem wML_X5_96 : Cond.methodLink RX5 96 yX5_isBird ∈ wB := wIn 850 (by decide +kernel) rfl
theorem wPM_X5_isBird : Cond.privateMethod yX5_isBird ∈ lw_tbl := List.mem_of_getElem? (i := 851) (by decide +kernel)
theorem wIM_X5_isBird : Cond.instanceMethod yX5_isBird ∈ wB := wIn 852 (by decide +kernel) rfl
theorem wCO_X5_isBird : Cond.code yX5_isBird cX5_isBird 2 (some .boolean) ∈ wB := wIn 853 (by decide +kernel) rfl
theorem wML_X5_99 : Cond.methodLink RX5 99 yX5_set ∈ wB := wIn 854 (by decide +kernel) rfl
theorem wPM_X5_set : Cond.privateMethod yX5_set ∈ lw_tbl := List.mem_of_getElem? (i := 855) (by decide +kernel)
theorem wIM_X5_set : Cond.instanceMethod yX5_set ∈ wB := wIn 856 (by decide +kernel) rfl
theorem wCO_X5_set : Cond.code yX5_set cX5_set 4 none ∈ wB := wIn 857 (by decide +kernel) rfl
theorem wML_L_112 : Cond.methodLink RL 112 yX5_pin ∈ wB := wIn 858 (by decide +kernel) rfl
theorem wIM_X5_pin : Cond.instanceMethod yX5_pin ∈ wB := wIn 859 (by decide +kernel) rfl
theorem wSE_X5_X5_pin : Cond.selects RX5 yX5_pin yX5_pin ∈ wB := wIn 860 (by decide +kernel) rfl
theorem wCO_X5_pin : Cond.code yX5_pin cX5_pin 6 (some .int) ∈ wB := wIn 861 (by decide +kernel) rfl
theorem wML_L_115 : Cond.methodLink RL 115 yX5_tune ∈ wB := wIn 862 (by decide +kernel) rfl
theorem wIM_X5_tune : Cond.instanceMethod yX5_tune ∈ wB := wIn 863 (by decide +kernel) rfl
theorem wSE_X5_X5_tune : Cond.selects RX5 yX5_tune yX5_tune ∈ wB := wIn 864 (by decide +kernel) rfl
theorem wCO_X5_tune : Cond.code yX5_tune cX5_tune 5 (some .int) ∈ wB := wIn 865 (by decide +kernel) rfl
theorem wML_L_119 : Cond.methodLink RL 119 yX5_point ∈ wB := wIn 866 (by decide +kernel) rfl
theorem wIM_X5_point : Cond.instanceMethod yX5_point ∈ wB := wIn 867 (by decide +kernel) rfl
theorem wSE_X5_X5_point : Cond.selects RX5 yX5_point yX5_point ∈ wB := wIn 868 (by decide +kernel) rfl
theorem wCO_X5_point : Cond.code yX5_point cX5_point 6 (some .int) ∈ wB := wIn 869 (by decide +kernel) rfl
theorem wML_X5_106 : Cond.methodLink RX5 106 yX5_pointsOf ∈ wB := wIn 870 (by decide +kernel) rfl
theorem wPM_X5_pointsOf : Cond.privateMethod yX5_pointsOf ∈ lw_tbl := List.mem_of_getElem? (i := 871) (by decide +kernel)
theorem wIM_X5_pointsOf : Cond.instanceMethod yX5_pointsOf ∈ wB := wIn 872 (by decide +kernel) rfl
theorem wCO_X5_pointsOf : Cond.code yX5_pointsOf cX5_pointsOf 5 (some .int) ∈ wB := wIn 873 (by decide +kernel) rfl
theorem wML_L_122 : Cond.methodLink RL 122 yX5_bird ∈ wB := wIn 874 (by decide +kernel) rfl
theorem wIM_X5_bird : Cond.instanceMethod yX5_bird ∈ wB := wIn 875 (by decide +kernel) rfl
theorem wSE_X5_X5_bird : Cond.selects RX5 yX5_bird yX5_bird ∈ wB := wIn 876 (by decide +kernel) rfl
theorem wCO_X5_bird : Cond.code yX5_bird cX5_bird 3 (some .int) ∈ wB := wIn 877 (by decide +kernel) rfl
theorem wML_L_125 : Cond.methodLink RL 125 yX5_lift ∈ wB := wIn 878 (by decide +kernel) rfl
theorem wIM_X5_lift : Cond.instanceMethod yX5_lift ∈ wB := wIn 879 (by decide +kernel) rfl
theorem wSE_X5_X5_lift : Cond.selects RX5 yX5_lift yX5_lift ∈ wB := wIn 880 (by decide +kernel) rfl
theorem wCO_X5_lift : Cond.code yX5_lift cX5_lift 4 (some .int) ∈ wB := wIn 881 (by decide +kernel) rfl
theorem wML_L_128 : Cond.methodLink RL 128 yX5_run ∈ wB := wIn 882 (by decide +kernel) rfl
theorem wIM_X5_run : Cond.instanceMethod yX5_run ∈ wB := wIn 883 (by decide +kernel) rfl
theorem wSE_X5_X5_run : Cond.selects RX5 yX5_run yX5_run ∈ wB := wIn 884 (by decide +kernel) rfl
theorem wCO_X5_run : Cond.code yX5_run cX5_run 4 (some .int) ∈ wB := wIn 885 (by decide +kernel) rfl
theorem wML_X5_135 : Cond.methodLink RX5 135 yX5_oneTick ∈ wB := wIn 886 (by decide +kernel) rfl
theorem wPM_X5_oneTick : Cond.privateMethod yX5_oneTick ∈ lw_tbl := List.mem_of_getElem? (i := 887) (by decide +kernel)
theorem wIM_X5_oneTick : Cond.instanceMethod yX5_oneTick ∈ wB := wIn 888 (by decide +kernel) rfl
theorem wCO_X5_oneTick : Cond.code yX5_oneTick cX5_oneTick 5 none ∈ wB := wIn 889 (by decide +kernel) rfl
theorem wML_X5_131 : Cond.methodLink RX5 131 yX5_turn ∈ wB := wIn 890 (by decide +kernel) rfl
theorem wPM_X5_turn : Cond.privateMethod yX5_turn ∈ lw_tbl := List.mem_of_getElem? (i := 891) (by decide +kernel)
theorem wIM_X5_turn : Cond.instanceMethod yX5_turn ∈ wB := wIn 892 (by decide +kernel) rfl
theorem wCO_X5_turn : Cond.code yX5_turn cX5_turn 9 none ∈ wB := wIn 893 (by decide +kernel) rfl
theorem wconstantLong_X5_125 : Cond.constantLong RX5 125 1000 ∈ wB := wIn 894 (by decide +kernel) rfl
theorem wML_X5_127 : Cond.methodLink RX5 127 yX5_note ∈ wB := wIn 895 (by decide +kernel) rfl
theorem wPM_X5_note : Cond.privateMethod yX5_note ∈ lw_tbl := List.mem_of_getElem? (i := 896) (by decide +kernel)
theorem wIM_X5_note : Cond.instanceMethod yX5_note ∈ wB := wIn 897 (by decide +kernel) rfl
theorem wCO_X5_note : Cond.code yX5_note cX5_note 5 none ∈ wB := wIn 898 (by decide +kernel) rfl
theorem wML_L_131 : Cond.methodLink RL 131 yX5_count ∈ wB := wIn 899 (by decide +kernel) rfl
theorem wIM_X5_count : Cond.instanceMethod yX5_count ∈ wB := wIn 900 (by decide +kernel) rfl
theorem wSE_X5_X5_count : Cond.selects RX5 yX5_count yX5_count ∈ wB := wIn 901 (by decide +kernel) rfl
theorem wCO_X5_count : Cond.code yX5_count cX5_count 2 (some .int) ∈ wB := wIn 902 (by decide +kernel) rfl
theorem wML_X5_141 : Cond.methodLink RX5 141 yX5_counted ∈ wB := wIn 903 (by decide +kernel) rfl
theorem wPM_X5_counted : Cond.privateMethod yX5_counted ∈ lw_tbl := List.mem_of_getElem? (i := 904) (by decide +kernel)
theorem wIM_X5_counted : Cond.instanceMethod yX5_counted ∈ wB := wIn 905 (by decide +kernel) rfl
theorem wCO_X5_counted : Cond.code yX5_counted cX5_counted 2 (some .int) ∈ wB := wIn 906 (by decide +kernel) rfl
theorem wML_X5_138 : Cond.methodLink RX5 138 yX5_heldByAll ∈ wB := wIn 907 (by decide +kernel) rfl
theorem wPM_X5_heldByAll : Cond.privateMethod yX5_heldByAll ∈ lw_tbl := List.mem_of_getElem? (i := 908) (by decide +kernel)
theorem wIM_X5_heldByAll : Cond.instanceMethod yX5_heldByAll ∈ wB := wIn 909 (by decide +kernel) rfl
theorem wCO_X5_heldByAll : Cond.code yX5_heldByAll cX5_heldByAll 3 (some .int) ∈ wB := wIn 910 (by decide +kernel) rfl
theorem wML_L_134 : Cond.methodLink RL 134 yX5_sung ∈ wB := wIn 911 (by decide +kernel) rfl
theorem wIM_X5_sung : Cond.instanceMethod yX5_sung ∈ wB := wIn 912 (by decide +kernel) rfl
theorem wSE_X5_X5_sung : Cond.selects RX5 yX5_sung yX5_sung ∈ wB := wIn 913 (by decide +kernel) rfl
theorem wCO_X5_sung : Cond.code yX5_sung cX5_sung 3 (some .int) ∈ wB := wIn 914 (by decide +kernel) rfl
theorem wML_L_137 : Cond.methodLink RL 137 yX5_chord ∈ wB := wIn 915 (by decide +kernel) rfl
theorem wIM_X5_chord : Cond.instanceMethod yX5_chord ∈ wB := wIn 916 (by decide +kernel) rfl
theorem wSE_X5_X5_chord : Cond.selects RX5 yX5_chord yX5_chord ∈ wB := wIn 917 (by decide +kernel) rfl
theorem wCO_X5_chord : Cond.code yX5_chord cX5_chord 6 (some .int) ∈ wB := wIn 918 (by decide +kernel) rfl
theorem wML_L_141 : Cond.methodLink RL 141 yX5_longest ∈ wB := wIn 919 (by decide +kernel) rfl
theorem wIM_X5_longest : Cond.instanceMethod yX5_longest ∈ wB := wIn 920 (by decide +kernel) rfl
theorem wSE_X5_X5_longest : Cond.selects RX5 yX5_longest yX5_longest ∈ wB := wIn 921 (by decide +kernel) rfl
theorem wCO_X5_longest : Cond.code yX5_longest cX5_longest 4 (some .int) ∈ wB := wIn 922 (by decide +kernel) rfl
theorem wML_L_145 : Cond.methodLink RL 145 yX5_emptySongs ∈ wB := wIn 923 (by decide +kernel) rfl
theorem wIM_X5_emptySongs : Cond.instanceMethod yX5_emptySongs ∈ wB := wIn 924 (by decide +kernel) rfl
theorem wSE_X5_X5_emptySongs : Cond.selects RX5 yX5_emptySongs yX5_emptySongs ∈ wB := wIn 925 (by decide +kernel) rfl
theorem wCO_X5_emptySongs : Cond.code yX5_emptySongs cX5_emptySongs 2 (some .int) ∈ wB := wIn 926 (by decide +kernel) rfl
theorem wML_L_148 : Cond.methodLink RL 148 yX5_runsDown ∈ wB := wIn 927 (by decide +kernel) rfl
theorem wIM_X5_runsDown : Cond.instanceMethod yX5_runsDown ∈ wB := wIn 928 (by decide +kernel) rfl
theorem wSE_X5_X5_runsDown : Cond.selects RX5 yX5_runsDown yX5_runsDown ∈ wB := wIn 929 (by decide +kernel) rfl
theorem wCO_X5_runsDown : Cond.code yX5_runsDown cX5_runsDown 4 (some .int) ∈ wB := wIn 930 (by decide +kernel) rfl
theorem wML_X5_144 : Cond.methodLink RX5 144 yX5_isDown ∈ wB := wIn 931 (by decide +kernel) rfl
theorem wPM_X5_isDown : Cond.privateMethod yX5_isDown ∈ lw_tbl := List.mem_of_getElem? (i := 932) (by decide +kernel)
theorem wIM_X5_isDown : Cond.instanceMethod yX5_isDown ∈ wB := wIn 933 (by decide +kernel) rfl
theorem wCO_X5_isDown : Cond.code yX5_isDown cX5_isDown 2 (some .boolean) ∈ wB := wIn 934 (by decide +kernel) rfl
theorem wML_L_153 : Cond.methodLink RL 153 yX5_tension ∈ wB := wIn 935 (by decide +kernel) rfl
theorem wIM_X5_tension : Cond.instanceMethod yX5_tension ∈ wB := wIn 936 (by decide +kernel) rfl
theorem wSE_X5_X5_tension : Cond.selects RX5 yX5_tension yX5_tension ∈ wB := wIn 937 (by decide +kernel) rfl
theorem wCO_X5_tension : Cond.code yX5_tension cX5_tension 1 (some .double) ∈ wB := wIn 938 (by decide +kernel) rfl
theorem wML_L_158 : Cond.methodLink RL 158 yX5_digest ∈ wB := wIn 939 (by decide +kernel) rfl
theorem wIM_X5_digest : Cond.instanceMethod yX5_digest ∈ wB := wIn 940 (by decide +kernel) rfl
theorem wSE_X5_X5_digest : Cond.selects RX5 yX5_digest yX5_digest ∈ wB := wIn 941 (by decide +kernel) rfl
theorem wCO_X5_digest : Cond.code yX5_digest cX5_digest 5 (some .long) ∈ wB := wIn 942 (by decide +kernel) rfl
theorem wconstantLong_X5_148 : Cond.constantLong RX5 148 449 ∈ wB := wIn 943 (by decide +kernel) rfl
theorem wconstantLong_X5_150 : Cond.constantLong RX5 150 31 ∈ wB := wIn 944 (by decide +kernel) rfl
theorem warrayClass__long : Cond.arrayClass .long ∈ wB := wIn 945 (by decide +kernel) rfl
theorem inX0_B : ∀ w ∈ wsX00, w ∈ wB := by
  intro w hw
  obtain ⟨k, hk, rfl⟩ := List.mem_map.mp hw
  have hk := List.mem_range.mp hk
  match k, hk with
  | 0, _ => exact wIn 472 (by decide +kernel) rfl
  | 1, _ => exact wIn 474 (by decide +kernel) rfl
  | 2, _ => exact wIn 476 (by decide +kernel) rfl
  | 3, _ => exact wIn 478 (by decide +kernel) rfl
  | 4, _ => exact wIn 480 (by decide +kernel) rfl
  | 5, _ => exact wIn 482 (by decide +kernel) rfl
  | 6, _ => exact wIn 484 (by decide +kernel) rfl
  | 7, _ => exact wIn 486 (by decide +kernel) rfl
  | 8, _ => exact wIn 488 (by decide +kernel) rfl
  | 9, _ => exact wIn 490 (by decide +kernel) rfl
  | 10, _ => exact wIn 492 (by decide +kernel) rfl
  | 11, _ => exact wIn 494 (by decide +kernel) rfl
  | 12, _ => exact wIn 496 (by decide +kernel) rfl
  | 13, _ => exact wIn 498 (by decide +kernel) rfl
  | 14, _ => exact wIn 500 (by decide +kernel) rfl
  | k + 15, hk => exact absurd hk (by omega)
theorem inX1_B : ∀ w ∈ wsX10, w ∈ wB := by
  intro w hw
  obtain ⟨k, hk, rfl⟩ := List.mem_map.mp hw
  have hk := List.mem_range.mp hk
  match k, hk with
  | 0, _ => exact wIn 439 (by decide +kernel) rfl
  | 1, _ => exact wIn 441 (by decide +kernel) rfl
  | 2, _ => exact wIn 443 (by decide +kernel) rfl
  | k + 3, hk => exact absurd hk (by omega)
theorem inX2_B : ∀ w ∈ wsX20, w ∈ wB := by
  intro w hw
  obtain ⟨k, hk, rfl⟩ := List.mem_map.mp hw
  have hk := List.mem_range.mp hk
  match k, hk with
  | 0, _ => exact wIn 74 (by decide +kernel) rfl
  | 1, _ => exact wIn 76 (by decide +kernel) rfl
  | 2, _ => exact wIn 78 (by decide +kernel) rfl
  | 3, _ => exact wIn 80 (by decide +kernel) rfl
  | 4, _ => exact wIn 82 (by decide +kernel) rfl
  | k + 5, hk => exact absurd hk (by omega)
theorem inX3_B : ∀ w ∈ wsX30, w ∈ wB := by
  intro w hw
  obtain ⟨k, hk, rfl⟩ := List.mem_map.mp hw
  have hk := List.mem_range.mp hk
  match k, hk with
  | 0, _ => exact wIn 358 (by decide +kernel) rfl
  | 1, _ => exact wIn 360 (by decide +kernel) rfl
  | 2, _ => exact wIn 362 (by decide +kernel) rfl
  | 3, _ => exact wIn 364 (by decide +kernel) rfl
  | 4, _ => exact wIn 366 (by decide +kernel) rfl
  | 5, _ => exact wIn 368 (by decide +kernel) rfl
  | 6, _ => exact wIn 370 (by decide +kernel) rfl
  | 7, _ => exact wIn 372 (by decide +kernel) rfl
  | k + 8, hk => exact absurd hk (by omega)
theorem inX4_B : ∀ w ∈ wsX40, w ∈ wB := by
  intro w hw
  obtain ⟨k, hk, rfl⟩ := List.mem_map.mp hw
  have hk := List.mem_range.mp hk
  match k, hk with
  | 0, _ => exact wIn 93 (by decide +kernel) rfl
  | 1, _ => exact wIn 95 (by decide +kernel) rfl
  | 2, _ => exact wIn 97 (by decide +kernel) rfl
  | 3, _ => exact wIn 99 (by decide +kernel) rfl
  | 4, _ => exact wIn 101 (by decide +kernel) rfl
  | 5, _ => exact wIn 103 (by decide +kernel) rfl
  | 6, _ => exact wIn 105 (by decide +kernel) rfl
  | k + 7, hk => exact absurd hk (by omega)
theorem inX5_B : ∀ w ∈ wsX50, w ∈ wB := by
  intro w hw
  obtain ⟨k, hk, rfl⟩ := List.mem_map.mp hw
  have hk := List.mem_range.mp hk
  match k, hk with
  | 0, _ => exact wIn 739 (by decide +kernel) rfl
  | 1, _ => exact wIn 741 (by decide +kernel) rfl
  | 2, _ => exact wIn 743 (by decide +kernel) rfl
  | 3, _ => exact wIn 745 (by decide +kernel) rfl
  | 4, _ => exact wIn 747 (by decide +kernel) rfl
  | 5, _ => exact wIn 749 (by decide +kernel) rfl
  | 6, _ => exact wIn 751 (by decide +kernel) rfl
  | 7, _ => exact wIn 753 (by decide +kernel) rfl
  | 8, _ => exact wIn 755 (by decide +kernel) rfl
  | 9, _ => exact wIn 757 (by decide +kernel) rfl
  | 10, _ => exact wIn 759 (by decide +kernel) rfl
  | 11, _ => exact wIn 761 (by decide +kernel) rfl
  | 12, _ => exact wIn 763 (by decide +kernel) rfl
  | 13, _ => exact wIn 765 (by decide +kernel) rfl
  | 14, _ => exact wIn 767 (by decide +kernel) rfl
  | 15, _ => exact wIn 769 (by decide +kernel) rfl
  | k + 16, hk => exact absurd hk (by omega)
/-- a method's words: its own code, and all -/
noncomputable def ws_ (y : MethodName) (cc : ByteArray) (n : Nat) (r : Option FieldType) : List Cond := Cond.code y cc n r :: wB
noncomputable def wsW (y : MethodName) (cc : ByteArray) (n : Nat) (r : Option FieldType) (hh : List (Nat × Nat × Nat × Nat)) : List Cond := Cond.codeWith y cc n r hh :: wB
theorem ws_good {y : MethodName} {cc : ByteArray} {n : Nat} {r : Option FieldType} (h : Cond.code y cc n r ∈ wB) : GoodIn wB (ws_ y cc n r) := fun w hw => by
  rcases List.mem_cons.mp hw with rfl | h1
  · exact wB_good _ h
  · exact wB_good _ h1
theorem wsW_good {y : MethodName} {cc : ByteArray} {n : Nat} {r : Option FieldType} {hh : List (Nat × Nat × Nat × Nat)} (h : Cond.codeWith y cc n r hh ∈ wB) : GoodIn wB (wsW y cc n r hh) := fun w hw => by
  rcases List.mem_cons.mp hw with rfl | h1
  · exact wB_good _ h
  · exact wB_good _ h1
theorem gV {own C : String} {idx : Nat} {y : MethodName} {ws : List Cond} (hw : GoodIn wB ws) (h1 : Cond.methodLink own idx y ∈ wB) (h2 : Cond.instanceMethod y ∈ wB) (h3 : Cond.selects C y y ∈ wB) (h4 : Cond.initialized C ∈ wB) : GoodIn wB (wsV own idx C y ws) := fun w h => by
  rcases List.mem_append.mp h with h | h
  · simp only [List.mem_cons, List.not_mem_nil, or_false] at h
    rcases h with rfl | rfl | rfl | rfl
    · exact wB_good _ h1
    · exact wB_good _ h2
    · exact wB_good _ h3
    · exact wB_good _ h4
  · exact hw w h
theorem gS {own : String} {idx : Nat} {y : MethodName} {ws : List Cond} (hw : GoodIn wB ws) (h1 : Cond.methodLink own idx y ∈ wB) (h2 : Cond.static y ∈ wB) (h3 : Cond.initialized y.cls ∈ wB) : GoodIn wB (va_wsS own idx y ws) := fun w h => by
  rcases List.mem_append.mp h with h | h
  · simp only [List.mem_cons, List.not_mem_nil, or_false] at h
    rcases h with rfl | rfl | rfl
    · exact wB_good _ h1
    · exact wB_good _ h2
    · exact wB_good _ h3
  · exact hw w h
end
section
/-! THE WORLD BY ROLES: a cell is (kind, number); the state is two functions, kind, number, place ↦ value.
kinds: 0 the parlour, 1 its row of springs, 2 its row of birds, 3 the songs, 4 the kept notes, 5 a spring, 6 a bird, 7 its levers, 8 its notes, 9 its row of cams, 10 a cam (3 * bird + cam), 11 marks, 12 lifts, 20 the reference, 21 .. 29 its rows, 30 the law's row of one long -/
abbrev Sg : Type := (Nat → Nat → Nat → Int32) × (Nat → Nat → Nat → Int64)
/-- springs, birds, addresses -/
abbrev Sh : Type := Nat × Nat × (Nat → Nat → Nat)
abbrev Gx : Type := va_G × (ClassId × ClassId × ClassId × ClassId × ClassId × ClassId) × (Nat → Nat)
def sI (σ : Sg) (k i f : Nat) (v : Int32) : Sg := (fun k' i' f' => if k' = k ∧ i' = i ∧ f' = f then v else σ.1 k' i' f', σ.2)
def sL (σ : Sg) (k i f : Nat) (v : Int64) : Sg := (σ.1, fun k' i' f' => if k' = k ∧ i' = i ∧ f' = f then v else σ.2 k' i' f')
def al (h : Sh) (k i : Nat) : Prop := (k ≤ 4 ∧ i = 0) ∨ (k = 5 ∧ i < h.1) ∨ (6 ≤ k ∧ k ≤ 9 ∧ i < h.2.1) ∨ (10 ≤ k ∧ k ≤ 12 ∧ i < 3 * h.2.1) ∨ (20 ≤ k ∧ k ≤ 30 ∧ i = 0)
def aln (k : Nat) : Nat := if k = 4 then 1000 else if k = 7 then 96 else if k = 8 then 6 else if k = 11 then 96 else if k = 12 then 96 else if k = 21 then 20 else if k = 22 then 88 else if k = 24 then 768 else if k = 25 then 48 else if k = 26 then 2304 else if k = 27 then 1000 else if k = 28 then 20 else if k = 29 then 88 else 0
def iO (n j : Nat) : Option Nat := if j < n then some j else none
def spF (h : Sh) (j : Nat) : Option Nat := (iO h.1 j).map (h.2.2 5)
def bdF (h : Sh) (j : Nat) : Option Nat := (iO h.2.1 j).map (h.2.2 6)
def cmF (h : Sh) (i j : Nat) : Option Nat := some (h.2.2 10 (3 * i + j))
/-- what the cell of a role holds -/
def cF (g : Gx) (h : Sh) (I : Nat → Int32) (L : Nat → Int64) (k i : Nat) : va_E :=
  if aln k ≠ 0 then .inl (g.2.1.1, aln k, .inl I)
  else if k = 0 then .inr (4, [.ref (h.2.2 1 0), .ref (h.2.2 2 0), .ref (h.2.2 3 0), .int (I 3), .int (I 4), .int (I 5), .int (I 6)])
  else if k = 1 then .inl (g.2.1.2.2.2.1, 4, .inr (.inr (.inr (.inr (spF h)))))
  else if k = 2 then .inl (g.2.1.2.2.2.2.1, 8, .inr (.inr (.inr (.inr (bdF h)))))
  else if k = 3 then .inr (2, [.ref (h.2.2 4 0), .int (I 1), .int (I 2), .int (I 3), .int (I 4)])
  else if k = 5 then .inr (3, [.int (I 0), .int (I 1), .long (L 2), .int (I 3), .int (I 4), .int (I 5), .long (L 6), .int (I 7)])
  else if k = 6 then .inr (0, [.int (I 0), .int (I 1), .int (I 2), .int (I 3), .int (I 4), .ref (h.2.2 7 i), .ref (h.2.2 8 i), .ref (h.2.2 9 i), .int (I 8), .int (I 9), .long (L 10), .long (L 11), .int (I 12), .long (L 13), .int (I 14)])
  else if k = 9 then .inl (g.2.1.2.2.2.2.2, 3, .inr (.inr (.inr (.inr (cmF h i)))))
  else if k = 10 then .inr (1, [.ref (h.2.2 11 i), .ref (h.2.2 12 i), .int (I 2)])
  else if k = 20 then .inr (5, [.int (I 0), .int (I 1), .int (I 2), .int (I 3), .ref (h.2.2 21 0), .ref (h.2.2 22 0), .ref (h.2.2 23 0), .ref (h.2.2 24 0), .ref (h.2.2 25 0), .ref (h.2.2 26 0), .int (I 10), .int (I 11), .ref (h.2.2 27 0), .int (I 13), .ref (h.2.2 28 0), .ref (h.2.2 29 0)])
  else if k = 23 then .inl (g.2.1.2.1, 16, .inl I)
  else .inl (g.2.1.2.2.1, 1, .inr (.inl L))
def ct (g : Gx) (h : Sh) (σ : Sg) (k i : Nat) : va_E := cF g h (σ.1 k i) (σ.2 k i) k i
def FW (g : Gx) (h : Sh) (A : Nat → Prop) (σ : Sg) (H : Heap) : Prop :=
  ∃ (L : List Nat) (f : Nat → va_E), va_P g.1 vwCl (va_pl L f) H ∧ va_D A (va_pl L f) ∧ (∀ k i, al h k i → h.2.2 k i ∈ L ∧ f (h.2.2 k i) = ct g h σ k i) ∧ ∀ k i k' i', al h k i → al h k' i' → h.2.2 k i = h.2.2 k' i' → k = k' ∧ i = i'
def tysG (g : Gx) : List (ClassId × FieldType) := [(g.2.1.1, .int), (g.2.1.2.1, .boolean), (g.2.1.2.2.1, .long), (g.2.1.2.2.2.1, .object RX3), (g.2.1.2.2.2.2.1, .object RX0), (g.2.1.2.2.2.2.2, .object RX1)]
def nstW : List (String × Nat × MethodName × String) := [(RX4, 23, yX2_init, "BirdParlour"), (RX2, 32, yX4_at, "BirdParlour"), (RX0, 71, yX4_at, "BirdParlour"), (RX0, 67, yX4_isIn, "BirdParlour"), (RX0, 48, yX1_init, "BirdParlour"), (RX0, 82, yX4_put, "BirdParlour"), (RX1, 18, yX4_at, "BirdParlour"), (RX1, 30, yX4_put, "BirdParlour"), (RX1, 42, yX4_remainder, "BirdParlour"), (RX2, 28, yX4_put, "BirdParlour")]
def strW : List (Nat × String) := [(243, "what is not 0 to 5"), (57, "no such spring"), (106, "what is not 0 to 6"), (126, "no such bird"), (222, "what is not 0 to 9"), (177, "no such bird or cam"), (224, "place is neither -1 nor on the barrel"), (248, "no such note"), (250, "what is not 0 to 3"), (34, "strength is not 1 to 50"), (45, "there are 4 springs"), (61, "turns is not 1 to 200000"), (76, "both are the same spring"), (108, "weight is not 0 to 20"), (110, "places is not 8 to 96"), (112, "p or q is not 1 to 12"), (117, "there are 8 birds"), (142, "place is not on the barrel"), (144, "lever is not 0 to 5"), (153, "there are 24 pins"), (159, "note is not 0 to 87"), (179, "lift is not -1 to 100"), (186, "there is no point to take away"), (191, "the cam has 8 points"), (229, "ticks is not 1 to 500"), (255, "tick is less than 0"), (268, "most is not 1 to 2000")]
def exs : List String := ["java/lang/IndexOutOfBoundsException", "java/lang/IllegalArgumentException", "java/lang/IllegalStateException"]
def dclW : List MethodName := [⟨"java/lang/RuntimeException", "<init>", "(Ljava/lang/String;)V"⟩, ⟨"java/lang/Exception", "<init>", "(Ljava/lang/String;)V"⟩, ⟨"java/lang/Throwable", "<init>", "(Ljava/lang/String;)V"⟩]
def KW (g : Gx) (U : State) : Prop := va_K g.1 vwCl (tysG g) U ∧ (∀ q ∈ nstW, va_Nw (.methodLinkNest q.1 q.2.1 q.2.2.1 q.2.2.2) U) ∧ (∀ q ∈ strW, vk_R RX4 q.1 q.2 (g.2.2 q.1) U) ∧ (∀ E ∈ exs, va_Nw (.castable E E) U) ∧ (∀ E ∈ exs, ∀ E' ∈ exs, E ≠ E' → va_Nc E E' U) ∧ ∀ x ∈ dclW, va_Nw (.declares x) U
def Ax (lo : Nat) : Nat → Prop := fun q => lo ≤ q
def ZW (lo : Nat) (U : State) (H : Heap) : Prop := vx_Zq Bundle.tN "UNASSIGNED_STACK" Bundle.steD (Ax lo) U H ∧ vx_Zq Bundle.tN "SUPPRESSED_SENTINEL" Bundle.listD (Ax lo) U H
def WD (lo : Nat) (g : Gx) (h : Sh) (σ : Sg) (U : State) : Prop := lo ≤ U.heap.size ∧ FW g h (Ax lo) σ U.heap ∧ KW g U ∧ ZW lo U U.heap
theorem KW.warm {g : Gx} {s U : State} (hW : s.WarmedH U.vm) (h : KW g s) : KW g U :=
  ⟨va_K.moved hW.alike h.1, fun q hq => va_Nw.warmM hW (h.2.1 q hq), fun q hq => vk_R.warm hW (h.2.2.1 q hq), fun E hE => va_Nw.warmC hW (h.2.2.2.1 E hE), fun E hE E' hE' hn => va_Nc.moved hW.alike (h.2.2.2.2.1 E hE E' hE' hn), fun x hx => va_Nw.warmD hW (h.2.2.2.2.2 x hx)⟩
theorem KW.call {g : Gx} {U : State} {gf : JFrame} {mk : MethodId} {a : Array Value} (h : KW g U) : KW g (U.calling gf mk a) :=
  ⟨va_K.moved (u := U) (U := U.calling gf mk a) (Vm.Alike.refl U.vm) h.1, fun q hq => va_Nw.same (u := U) (U := U.calling gf mk a) rfl rfl (h.2.1 q hq), fun q hq => vk_R.same (u := U) (U := U.calling gf mk a) rfl (h.2.2.1 q hq), fun E hE => va_Nw.same (u := U) (U := U.calling gf mk a) rfl rfl (h.2.2.2.1 E hE), fun E hE E' hE' hn => va_Nc.moved (u := U) (U := U.calling gf mk a) (Vm.Alike.refl U.vm) (h.2.2.2.2.1 E hE E' hE' hn), fun x hx => va_Nw.same (u := U) (U := U.calling gf mk a) rfl rfl (h.2.2.2.2.2 x hx)⟩
theorem ZW.call {lo : Nat} {U : State} {gf : JFrame} {mk : MethodId} {a : Array Value} (h : ZW lo U U.heap) : ZW lo (U.calling gf mk a) (U.calling gf mk a).heap :=
  ⟨vx_Zq.moved (u := U) (U := U.calling gf mk a) (Vm.Alike.refl U.vm) h.1, vx_Zq.moved (u := U) (U := U.calling gf mk a) (Vm.Alike.refl U.vm) h.2⟩
theorem ZW.go {lo : Nat} {s U : State} {H : Heap} {locs : List Loc} (hvm : s.vm.Alike U.vm) (hS : va_S (Ax lo) s.heap H locs) (h : ZW lo s s.heap) : ZW lo U H :=
  ⟨vx_Zq.moved hvm (h.1.kept hS.2.1), vx_Zq.moved hvm (h.2.kept hS.2.1)⟩
theorem WD.blind {lo : Nat} {g : Gx} {h : Sh} {σ : Sg} {args : List Value} : FrameBlind (va_Pc args (WD lo g h σ)) := fun _ _ _ _ q => ⟨q.1, q.2.1, q.2.2.1, q.2.2.2.1.call, q.2.2.2.2.call⟩
theorem WD.at {lo : Nat} {g : Gx} {h : Sh} {σ : Sg} {s : State} {H : Heap} {locs : List Loc} (hlo : lo ≤ s.heap.size) (hK : KW g s) (hZ : ZW lo s s.heap) (hW : FW g h (Ax lo) σ H) (hS : va_S (Ax lo) s.heap H locs) : ∀ U : State, U.heap = H → s.WarmedH U.vm → WD lo g h σ U :=
  fun U hU hw => ⟨by rw [hU]; exact Nat.le_trans hlo hS.1, by rw [hU]; exact hW, hK.warm hw, by rw [hU]; exact hZ.go hw.alike hS⟩
theorem cF_arr (g : Gx) (h : Sh) (I : Nat → Int32) (L : Nat → Int64) {k : Nat} (i : Nat) (hk : aln k ≠ 0) : cF g h I L k i = .inl (g.2.1.1, aln k, .inl I) := if_pos hk
theorem FW.cut {g : Gx} {h : Sh} {A : Nat → Prop} {σ : Sg} {H : Heap} (hF : FW g h A σ H) {k i : Nat} (ha : al h k i) :
    ∃ (ws : va_W) (q : Nat), va_P g.1 vwCl ws H ∧ va_D A ws ∧ ws[q]? = some (h.2.2 k i, ct g h σ k i) ∧
      ∀ (σ' : Sg) (H1 : Heap), (∀ k' i', (k' ≠ k ∨ i' ≠ i) → σ'.1 k' i' = σ.1 k' i' ∧ σ'.2 k' i' = σ.2 k' i') → va_P g.1 vwCl (ws.set q (h.2.2 k i, ct g h σ' k i)) H1 → va_D A (ws.set q (h.2.2 k i, ct g h σ' k i)) → FW g h A σ' H1 := by
  obtain ⟨L, f, hP, hD, hR, hJ⟩ := hF
  obtain ⟨q, hq⟩ := va_pl_get (X := []) (f := f) (hR k i ha).1
  refine ⟨va_pl L f, q, hP, hD, ?_, fun σ' H1 hag hP1 hD1 => ?_⟩
  · rw [← (hR k i ha).2]; exact hq
  · have e : (va_pl L f).set q (h.2.2 k i, ct g h σ' k i) = va_pl L (va_up f (h.2.2 k i) (ct g h σ' k i)) := va_pl_set (X := []) hD (hR k i ha).1 hq
    rw [e] at hP1 hD1
    refine ⟨L, _, hP1, hD1, fun k' i' ha' => ⟨(hR k' i' ha').1, ?_⟩, hJ⟩
    by_cases hx : k' = k ∧ i' = i
    · obtain ⟨rfl, rfl⟩ := hx
      exact va_up_self _ _ _
    · have hne : h.2.2 k' i' ≠ h.2.2 k i := fun q => hx (hJ k' i' k i ha' ha q)
      rw [va_up_ne _ _ hne, (hR k' i' ha').2]
      obtain ⟨e1, e2⟩ := hag k' i' (by rcases Classical.em (k' = k) with q | q; exact Or.inr (fun z => hx ⟨q, z⟩); exact Or.inl q)
      unfold ct
      rw [e1, e2]
theorem sI_off {σ : Sg} {k i f : Nat} {v : Int32} (k' i' : Nat) (h : k' ≠ k ∨ i' ≠ i) : (sI σ k i f v).1 k' i' = σ.1 k' i' ∧ (sI σ k i f v).2 k' i' = σ.2 k' i' :=
  ⟨funext fun f' => if_neg (fun q => h.elim (fun z => z q.1) (fun z => z q.2.1)), rfl⟩
theorem sL_off {σ : Sg} {k i f : Nat} {v : Int64} (k' i' : Nat) (h : k' ≠ k ∨ i' ≠ i) : (sL σ k i f v).1 k' i' = σ.1 k' i' ∧ (sL σ k i f v).2 k' i' = σ.2 k' i' :=
  ⟨rfl, funext fun f' => if_neg (fun q => h.elim (fun z => z q.1) (fun z => z q.2.1))⟩
theorem sI_on (σ : Sg) (k i f : Nat) (v : Int32) : (sI σ k i f v).1 k i = upd (σ.1 k i) f v := by
  funext j; simp [sI, upd]
theorem sI_on2 (σ : Sg) (k i f : Nat) (v : Int32) : (sI σ k i f v).2 k i = σ.2 k i := rfl
theorem sL_on (σ : Sg) (k i f : Nat) (v : Int64) : (sL σ k i f v).2 k i = vp_updL (σ.2 k i) f v := by
  funext j; simp [sL, vp_updL]
theorem sL_on1 (σ : Sg) (k i f : Nat) (v : Int64) : (sL σ k i f v).1 k i = σ.1 k i := rfl
section RW
variable {p : Program} {l : Launch} {e : Env} {R : Room} {s : State} {m : MethodId} {args : Array Value} {below : List Frame} {meth : Method} {c : Code} {H : Heap} {locs : List Loc} {cells slots : Nat} {Q : State → Prop}
variable {cc : ByteArray} {pc nL : Nat} {ls : Array Slot} {rest : List Value} {A : Nat → Prop} {H0 : Heap} {own : String} {g : Gx} {h : Sh} {σ : Sg}
theorem getI (C0 : CallFix p m c cc nL s args wB own) (hK : KW g s) (hW : FW g h A σ H) (k i : Nat) (ha : al h k i) {ci : Nat} {fs : List Value} (he : ct g h σ k i = .inr (ci, fs)) {C : String} {T : u_T} {N : Nat} (hc : vwCl[ci]? = some (C, T, N)) (hin : ∀ w ∈ u_ws C T N, w ∈ wB) (f : Nat) (hf : f < N) {index : Nat} (hl : Cond.fieldLink own index C (T f).2.1 (T f).2.2.1 ∈ wB) (hd : (T f).1 = C) {v : Value} (hv : fs[f]? = some v) (hdg : decode cc pc = .ok (.getfield index, 3))
    (kk : W p l e R s m args below meth c H locs cells slots Q (F0 m (pc + 3) ls (v :: rest))) : W p l e R s m args below meth c H locs cells slots Q (F0 m pc ls (.ref (h.2.2 k i) :: rest)) := by
  obtain ⟨ws, q, hP, -, hq, -⟩ := hW.cut ha
  rw [he] at hq
  exact va_get C0.1 C0.2.1 C0.2.2.2.2 hin C0.2.2.2.1 hK.1 hP q hq hc f hf (C0.2.2.2.2 _ hl) (fun x hx => hd ▸ hx) hv hdg kk
theorem putG (C0 : CallFix p m c cc nL s args wB own) (hK : KW g s) (hW : FW g h A σ H) (hS : va_S A H0 H locs) (k i : Nat) (ha : al h k i) {ci : Nat} {fs : List Value} (he : ct g h σ k i = .inr (ci, fs)) {C : String} {T : u_T} {N : Nat} (hc : vwCl[ci]? = some (C, T, N)) (hin : ∀ w ∈ u_ws C T N, w ∈ wB) {tyo : Nat → FieldType} (hty : ∀ k, k < N → parseFieldDescriptor (T k).2.2.1 = some (tyo k)) (hnm : ∀ a, a < N → ∀ b, b < N → a ≠ b → (T a).2.1 ≠ (T b).2.1) (f : Nat) (hf : f < N) {index : Nat} (hl : Cond.fieldLink own index C (T f).2.1 (T f).2.2.1 ∈ wB) (hd : (T f).1 = C) (hfin : (T f).2.2.2 = false) {v : Value} (hn : narrow (tyo f) v = v) (hfit : fits (tyo f) v = true) (hlen : f < fs.length) (σ' : Sg) (hoff : ∀ k' i', (k' ≠ k ∨ i' ≠ i) → σ'.1 k' i' = σ.1 k' i' ∧ σ'.2 k' i' = σ.2 k' i') (hon : ct g h σ' k i = .inr (ci, fs.set f v))
    (hdg : decode cc pc = .ok (.putfield index, 3)) (kk : ∀ (H1 : Heap) (locs1 : List Loc), FW g h A σ' H1 → va_S A H0 H1 locs1 → W p l e R s m args below meth c H1 locs1 cells slots Q (F0 m (pc + 3) ls rest)) : W p l e R s m args below meth c H locs cells slots Q (F0 m pc ls (v :: .ref (h.2.2 k i) :: rest)) := by
  obtain ⟨ws, q, hP, hD, hq, back⟩ := hW.cut ha
  rw [he] at hq
  refine va_put C0.1 C0.2.1 C0.2.2.2.2 hin tyo hty hnm C0.2.2.2.1 hK.1 hP hD hS q hq hc f hf (C0.2.2.2.2 _ hl) (fun x hx => hd ▸ hx) hfin (hty f hf) hn hfit hlen hdg (fun H1 locs1 hP1 hD1 hS1 => ?_)
  rw [← hon] at hP1 hD1
  exact kk H1 locs1 (back σ' H1 hoff hP1 hD1) hS1
theorem ald (C0 : CallFix p m c cc nL s args wB own) (hK : KW g s) (hW : FW g h A σ H) (k i : Nat) (ha : al h k i) (hk : aln k ≠ 0) {x : Int32} (hin : vp_in x (aln k)) (hdg : decode cc pc = .ok (.iaload, 1))
    (kk : W p l e R s m args below meth c H locs cells slots Q (F0 m (pc + 1) ls (.int (σ.1 k i x.toNatClampNeg) :: rest))) : W p l e R s m args below meth c H locs cells slots Q (F0 m pc ls (.int x :: .ref (h.2.2 k i) :: rest)) := by
  obtain ⟨ws, q, hP, -, hq, -⟩ := hW.cut ha
  rw [show ct g h σ k i = .inl (g.2.1.1, aln k, .inl (σ.1 k i)) from if_pos hk] at hq
  exact va_iald C0.1 C0.2.1 hK.1 hP q 0 hq rfl hin hdg kk
theorem ast (C0 : CallFix p m c cc nL s args wB own) (hK : KW g s) (hW : FW g h A σ H) (hS : va_S A H0 H locs) (k i : Nat) (ha : al h k i) (hk : aln k ≠ 0) {x v : Int32} (hin : vp_in x (aln k)) (hdg : decode cc pc = .ok (.iastore, 1))
    (kk : ∀ (H1 : Heap) (locs1 : List Loc), FW g h A (sI σ k i x.toNatClampNeg v) H1 → va_S A H0 H1 locs1 → W p l e R s m args below meth c H1 locs1 cells slots Q (F0 m (pc + 1) ls rest)) : W p l e R s m args below meth c H locs cells slots Q (F0 m pc ls (.int v :: .int x :: .ref (h.2.2 k i) :: rest)) := by
  obtain ⟨ws, q, hP, hD, hq, back⟩ := hW.cut ha
  rw [show ct g h σ k i = .inl (g.2.1.1, aln k, .inl (σ.1 k i)) from if_pos hk] at hq
  refine va_iast C0.1 C0.2.1 hK.1 hP hD hS q 0 hq rfl hin hdg (fun H1 locs1 hP1 hD1 hS1 => ?_)
  rw [← sI_on, ← (show ct g h (sI σ k i x.toNatClampNeg v) k i = .inl (g.2.1.1, aln k, .inl ((sI σ k i x.toNatClampNeg v).1 k i)) from if_pos hk)] at hP1 hD1
  exact kk H1 locs1 (back _ H1 sI_off hP1 hD1) hS1
theorem alen (C0 : CallFix p m c cc nL s args wB own) (hK : KW g s) (hW : FW g h A σ H) (k i : Nat) (ha : al h k i) (hk : aln k ≠ 0) {v : Int32} (hv : Int32.ofNat (aln k) = v) (hdg : decode cc pc = .ok (.arraylength, 1))
    (kk : W p l e R s m args below meth c H locs cells slots Q (F0 m (pc + 1) ls (.int v :: rest))) : W p l e R s m args below meth c H locs cells slots Q (F0 m pc ls (.ref (h.2.2 k i) :: rest)) := by
  obtain ⟨ws, q, hP, -, hq, -⟩ := hW.cut ha
  rw [show ct g h σ k i = .inl (g.2.1.1, aln k, .inl (σ.1 k i)) from if_pos hk] at hq
  exact va_alen C0.1 C0.2.1 hK.1 hP q 0 hq rfl hv hdg kk
theorem ct1 (i : Nat) : ct g h σ 1 i = .inl (g.2.1.2.2.2.1, 4, .inr (.inr (.inr (.inr (spF h))))) := rfl
theorem ct2 (i : Nat) : ct g h σ 2 i = .inl (g.2.1.2.2.2.2.1, 8, .inr (.inr (.inr (.inr (bdF h))))) := rfl
theorem ct9 (i : Nat) : ct g h σ 9 i = .inl (g.2.1.2.2.2.2.2, 3, .inr (.inr (.inr (.inr (cmF h i))))) := rfl
theorem ct23 (i : Nat) : ct g h σ 23 i = .inl (g.2.1.2.1, 16, .inl (σ.1 23 i)) := rfl
theorem ct30 (i : Nat) : ct g h σ 30 i = .inl (g.2.1.2.2.1, 1, .inr (.inl (σ.2 30 i))) := rfl
theorem al0 (h : Sh) (k : Nat) (hk : k ≤ 4) : al h k 0 := Or.inl ⟨hk, rfl⟩
theorem al5 {h : Sh} {i : Nat} (hi : i < h.1) : al h 5 i := Or.inr (Or.inl ⟨rfl, hi⟩)
theorem al6 {h : Sh} (k : Nat) {i : Nat} (hi : i < h.2.1) (hk : 6 ≤ k ∧ k ≤ 9) : al h k i := Or.inr (Or.inr (Or.inl ⟨hk.1, hk.2, hi⟩))
theorem al10 {h : Sh} (k : Nat) {i : Nat} (hi : i < 3 * h.2.1) (hk : 10 ≤ k ∧ k ≤ 12) : al h k i := Or.inr (Or.inr (Or.inr (Or.inl ⟨hk.1, hk.2, hi⟩)))
theorem al20 (h : Sh) (k : Nat) (hk : 20 ≤ k ∧ k ≤ 30) : al h k 0 := Or.inr (Or.inr (Or.inr (Or.inr ⟨hk.1, hk.2, rfl⟩)))
theorem len1 (C0 : CallFix p m c cc nL s args wB own) (hK : KW g s) (hW : FW g h A σ H) (hdg : decode cc pc = .ok (.arraylength, 1))
    (kk : W p l e R s m args below meth c H locs cells slots Q (F0 m (pc + 1) ls (.int 4 :: rest))) : W p l e R s m args below meth c H locs cells slots Q (F0 m pc ls (.ref (h.2.2 1 0) :: rest)) := by
  obtain ⟨ws, q, hP, -, hq, -⟩ := hW.cut (al0 h 1 (by decide))
  exact va_alen C0.1 C0.2.1 hK.1 hP q 3 hq rfl (show Int32.ofNat 4 = 4 by decide) hdg kk
theorem len2 (C0 : CallFix p m c cc nL s args wB own) (hK : KW g s) (hW : FW g h A σ H) (hdg : decode cc pc = .ok (.arraylength, 1))
    (kk : W p l e R s m args below meth c H locs cells slots Q (F0 m (pc + 1) ls (.int 8 :: rest))) : W p l e R s m args below meth c H locs cells slots Q (F0 m pc ls (.ref (h.2.2 2 0) :: rest)) := by
  obtain ⟨ws, q, hP, -, hq, -⟩ := hW.cut (al0 h 2 (by decide))
  exact va_alen C0.1 C0.2.1 hK.1 hP q 4 hq rfl (show Int32.ofNat 8 = 8 by decide) hdg kk
theorem len9 (C0 : CallFix p m c cc nL s args wB own) (hK : KW g s) (hW : FW g h A σ H) (i : Nat) (hi : i < h.2.1) (hdg : decode cc pc = .ok (.arraylength, 1))
    (kk : W p l e R s m args below meth c H locs cells slots Q (F0 m (pc + 1) ls (.int 3 :: rest))) : W p l e R s m args below meth c H locs cells slots Q (F0 m pc ls (.ref (h.2.2 9 i) :: rest)) := by
  obtain ⟨ws, q, hP, -, hq, -⟩ := hW.cut (al6 9 hi (by decide))
  exact va_alen C0.1 C0.2.1 hK.1 hP q 5 hq rfl (show Int32.ofNat 3 = 3 by decide) hdg kk
theorem ld1 (C0 : CallFix p m c cc nL s args wB own) (hK : KW g s) (hW : FW g h A σ H) {x : Int32} (hin : vp_in x 4) (hdg : decode cc pc = .ok (.aaload, 1))
    (kk : W p l e R s m args below meth c H locs cells slots Q (F0 m (pc + 1) ls (va_rf ((iO h.1 x.toNatClampNeg).map (h.2.2 5)) :: rest))) : W p l e R s m args below meth c H locs cells slots Q (F0 m pc ls (.int x :: .ref (h.2.2 1 0) :: rest)) := by
  obtain ⟨ws, q, hP, -, hq, -⟩ := hW.cut (al0 h 1 (by decide))
  exact va_aldq C0.1 C0.2.1 hK.1 hP q 3 hq rfl hin hdg kk
theorem ld2 (C0 : CallFix p m c cc nL s args wB own) (hK : KW g s) (hW : FW g h A σ H) {x : Int32} (hin : vp_in x 8) (hdg : decode cc pc = .ok (.aaload, 1))
    (kk : W p l e R s m args below meth c H locs cells slots Q (F0 m (pc + 1) ls (va_rf ((iO h.2.1 x.toNatClampNeg).map (h.2.2 6)) :: rest))) : W p l e R s m args below meth c H locs cells slots Q (F0 m pc ls (.int x :: .ref (h.2.2 2 0) :: rest)) := by
  obtain ⟨ws, q, hP, -, hq, -⟩ := hW.cut (al0 h 2 (by decide))
  exact va_aldq C0.1 C0.2.1 hK.1 hP q 4 hq rfl hin hdg kk
theorem ld9 (C0 : CallFix p m c cc nL s args wB own) (hK : KW g s) (hW : FW g h A σ H) (i : Nat) (hi : i < h.2.1) {x : Int32} (hin : vp_in x 3) (hdg : decode cc pc = .ok (.aaload, 1))
    (kk : W p l e R s m args below meth c H locs cells slots Q (F0 m (pc + 1) ls (.ref (h.2.2 10 (3 * i + x.toNatClampNeg)) :: rest))) : W p l e R s m args below meth c H locs cells slots Q (F0 m pc ls (.int x :: .ref (h.2.2 9 i) :: rest)) := by
  obtain ⟨ws, q, hP, -, hq, -⟩ := hW.cut (al6 9 hi (by decide))
  exact va_aldq C0.1 C0.2.1 hK.1 hP q 5 hq rfl hin hdg kk
theorem zld (C0 : CallFix p m c cc nL s args wB own) (hK : KW g s) (hW : FW g h A σ H) {x : Int32} (hin : vp_in x 16) (hdg : decode cc pc = .ok (.baload, 1))
    (kk : W p l e R s m args below meth c H locs cells slots Q (F0 m (pc + 1) ls (.int (σ.1 23 0 x.toNatClampNeg) :: rest))) : W p l e R s m args below meth c H locs cells slots Q (F0 m pc ls (.int x :: .ref (h.2.2 23 0) :: rest)) := by
  obtain ⟨ws, q, hP, -, hq, -⟩ := hW.cut (al20 h 23 (by decide))
  exact va_zald C0.1 C0.2.1 hK.1 hP q 1 hq rfl hin hdg kk
theorem zst (C0 : CallFix p m c cc nL s args wB own) (hK : KW g s) (hW : FW g h A σ H) (hS : va_S A H0 H locs) {x v : Int32} (hin : vp_in x 16) (hdg : decode cc pc = .ok (.bastore, 1))
    (kk : ∀ (H1 : Heap) (locs1 : List Loc), FW g h A (sI σ 23 0 x.toNatClampNeg (vp_nar .boolean v)) H1 → va_S A H0 H1 locs1 → W p l e R s m args below meth c H1 locs1 cells slots Q (F0 m (pc + 1) ls rest)) : W p l e R s m args below meth c H locs cells slots Q (F0 m pc ls (.int v :: .int x :: .ref (h.2.2 23 0) :: rest)) := by
  obtain ⟨ws, q, hP, hD, hq, back⟩ := hW.cut (al20 h 23 (by decide))
  refine va_zast C0.1 C0.2.1 hK.1 hP hD hS q 1 hq rfl hin hdg (fun H1 locs1 hP1 hD1 hS1 => ?_)
  rw [← sI_on, ← (show ct g h (sI σ 23 0 x.toNatClampNeg (vp_nar .boolean v)) 23 0 = .inl (g.2.1.2.1, 16, .inl ((sI σ 23 0 x.toNatClampNeg (vp_nar .boolean v)).1 23 0)) from rfl)] at hP1 hD1
  exact kk H1 locs1 (back _ H1 sI_off hP1 hD1) hS1
theorem lld (C0 : CallFix p m c cc nL s args wB own) (hK : KW g s) (hW : FW g h A σ H) {x : Int32} (hin : vp_in x 1) (hdg : decode cc pc = .ok (.laload, 1))
    (kk : W p l e R s m args below meth c H locs cells slots Q (F0 m (pc + 1) ls (.long (σ.2 30 0 x.toNatClampNeg) :: rest))) : W p l e R s m args below meth c H locs cells slots Q (F0 m pc ls (.int x :: .ref (h.2.2 30 0) :: rest)) := by
  obtain ⟨ws, q, hP, -, hq, -⟩ := hW.cut (al20 h 30 (by decide))
  exact va_lald C0.1 C0.2.1 hK.1 hP q 2 hq rfl hin hdg kk
theorem lst (C0 : CallFix p m c cc nL s args wB own) (hK : KW g s) (hW : FW g h A σ H) (hS : va_S A H0 H locs) {x : Int32} {v : Int64} (hin : vp_in x 1) (hdg : decode cc pc = .ok (.lastore, 1))
    (kk : ∀ (H1 : Heap) (locs1 : List Loc), FW g h A (sL σ 30 0 x.toNatClampNeg v) H1 → va_S A H0 H1 locs1 → W p l e R s m args below meth c H1 locs1 cells slots Q (F0 m (pc + 1) ls rest)) : W p l e R s m args below meth c H locs cells slots Q (F0 m pc ls (.long v :: .int x :: .ref (h.2.2 30 0) :: rest)) := by
  obtain ⟨ws, q, hP, hD, hq, back⟩ := hW.cut (al20 h 30 (by decide))
  refine va_last C0.1 C0.2.1 hK.1 hP hD hS q 2 hq rfl hin hdg (fun H1 locs1 hP1 hD1 hS1 => ?_)
  rw [← sL_on, ← (show ct g h (sL σ 30 0 x.toNatClampNeg v) 30 0 = .inl (g.2.1.2.2.1, 1, .inr (.inl ((sL σ 30 0 x.toNatClampNeg v).2 30 0))) from rfl)] at hP1 hD1
  exact kk H1 locs1 (back _ H1 sL_off hP1 hD1) hS1
theorem ct0 (i : Nat) : ct g h σ 0 i = .inr (4, [.ref (h.2.2 1 0), .ref (h.2.2 2 0), .ref (h.2.2 3 0), .int (σ.1 0 i 3), .int (σ.1 0 i 4), .int (σ.1 0 i 5), .int (σ.1 0 i 6)]) := rfl
theorem get0 (C0 : CallFix p m c cc nL s args wB own) (hK : KW g s) (hW : FW g h A σ H) (i : Nat) (ha : al h 0 i) (f : Nat) (hf : f < 7) {index : Nat} (hl : Cond.fieldLink own index RX4 (TX4 f).2.1 (TX4 f).2.2.1 ∈ wB) (hd : (TX4 f).1 = RX4) {v : Value} (hv : ([.ref (h.2.2 1 0), .ref (h.2.2 2 0), .ref (h.2.2 3 0), .int (σ.1 0 i 3), .int (σ.1 0 i 4), .int (σ.1 0 i 5), .int (σ.1 0 i 6)] : List Value)[f]? = some v) (hdg : decode cc pc = .ok (.getfield index, 3))
    (kk : W p l e R s m args below meth c H locs cells slots Q (F0 m (pc + 3) ls (v :: rest))) : W p l e R s m args below meth c H locs cells slots Q (F0 m pc ls (.ref (h.2.2 0 i) :: rest)) := getI C0 hK hW 0 i ha (ct0 i) (ci := 4) (C := RX4) (T := TX4) (N := 7) rfl inX4_B f hf hl hd hv hdg kk
theorem put0_3 (C0 : CallFix p m c cc nL s args wB own) (hK : KW g s) (hW : FW g h A σ H) (hS : va_S A H0 H locs) (i : Nat) (ha : al h 0 i) {v : Int32} {index : Nat} (hl : Cond.fieldLink own index RX4 (TX4 3).2.1 (TX4 3).2.2.1 ∈ wB) (hdg : decode cc pc = .ok (.putfield index, 3))
    (kk : ∀ (H1 : Heap) (locs1 : List Loc), FW g h A (sI σ 0 i 3 v) H1 → va_S A H0 H1 locs1 → W p l e R s m args below meth c H1 locs1 cells slots Q (F0 m (pc + 3) ls rest)) : W p l e R s m args below meth c H locs cells slots Q (F0 m pc ls (.int v :: .ref (h.2.2 0 i) :: rest)) :=
  putG C0 hK hW hS 0 i ha (ct0 i) (ci := 4) (C := RX4) (T := TX4) (N := 7) rfl inX4_B tyX4_ok nmX4 3 (by decide) hl rfl rfl rfl rfl (by simp) (sI σ 0 i 3 v) sI_off (by rw [ct0]; unfold sI; simp) hdg kk
theorem put0_4 (C0 : CallFix p m c cc nL s args wB own) (hK : KW g s) (hW : FW g h A σ H) (hS : va_S A H0 H locs) (i : Nat) (ha : al h 0 i) {v : Int32} {index : Nat} (hl : Cond.fieldLink own index RX4 (TX4 4).2.1 (TX4 4).2.2.1 ∈ wB) (hdg : decode cc pc = .ok (.putfield index, 3))
    (kk : ∀ (H1 : Heap) (locs1 : List Loc), FW g h A (sI σ 0 i 4 v) H1 → va_S A H0 H1 locs1 → W p l e R s m args below meth c H1 locs1 cells slots Q (F0 m (pc + 3) ls rest)) : W p l e R s m args below meth c H locs cells slots Q (F0 m pc ls (.int v :: .ref (h.2.2 0 i) :: rest)) :=
  putG C0 hK hW hS 0 i ha (ct0 i) (ci := 4) (C := RX4) (T := TX4) (N := 7) rfl inX4_B tyX4_ok nmX4 4 (by decide) hl rfl rfl rfl rfl (by simp) (sI σ 0 i 4 v) sI_off (by rw [ct0]; unfold sI; simp) hdg kk
theorem put0_5 (C0 : CallFix p m c cc nL s args wB own) (hK : KW g s) (hW : FW g h A σ H) (hS : va_S A H0 H locs) (i : Nat) (ha : al h 0 i) {v : Int32} {index : Nat} (hl : Cond.fieldLink own index RX4 (TX4 5).2.1 (TX4 5).2.2.1 ∈ wB) (hdg : decode cc pc = .ok (.putfield index, 3))
    (kk : ∀ (H1 : Heap) (locs1 : List Loc), FW g h A (sI σ 0 i 5 v) H1 → va_S A H0 H1 locs1 → W p l e R s m args below meth c H1 locs1 cells slots Q (F0 m (pc + 3) ls rest)) : W p l e R s m args below meth c H locs cells slots Q (F0 m pc ls (.int v :: .ref (h.2.2 0 i) :: rest)) :=
  putG C0 hK hW hS 0 i ha (ct0 i) (ci := 4) (C := RX4) (T := TX4) (N := 7) rfl inX4_B tyX4_ok nmX4 5 (by decide) hl rfl rfl rfl rfl (by simp) (sI σ 0 i 5 v) sI_off (by rw [ct0]; unfold sI; simp) hdg kk
theorem put0_6 (C0 : CallFix p m c cc nL s args wB own) (hK : KW g s) (hW : FW g h A σ H) (hS : va_S A H0 H locs) (i : Nat) (ha : al h 0 i) {v : Int32} {index : Nat} (hl : Cond.fieldLink own index RX4 (TX4 6).2.1 (TX4 6).2.2.1 ∈ wB) (hdg : decode cc pc = .ok (.putfield index, 3))
    (kk : ∀ (H1 : Heap) (locs1 : List Loc), FW g h A (sI σ 0 i 6 v) H1 → va_S A H0 H1 locs1 → W p l e R s m args below meth c H1 locs1 cells slots Q (F0 m (pc + 3) ls rest)) : W p l e R s m args below meth c H locs cells slots Q (F0 m pc ls (.int v :: .ref (h.2.2 0 i) :: rest)) :=
  putG C0 hK hW hS 0 i ha (ct0 i) (ci := 4) (C := RX4) (T := TX4) (N := 7) rfl inX4_B tyX4_ok nmX4 6 (by decide) hl rfl rfl rfl rfl (by simp) (sI σ 0 i 6 v) sI_off (by rw [ct0]; unfold sI; simp) hdg kk
theorem ct3 (i : Nat) : ct g h σ 3 i = .inr (2, [.ref (h.2.2 4 0), .int (σ.1 3 i 1), .int (σ.1 3 i 2), .int (σ.1 3 i 3), .int (σ.1 3 i 4)]) := rfl
theorem get3 (C0 : CallFix p m c cc nL s args wB own) (hK : KW g s) (hW : FW g h A σ H) (i : Nat) (ha : al h 3 i) (f : Nat) (hf : f < 5) {index : Nat} (hl : Cond.fieldLink own index RX2 (TX2 f).2.1 (TX2 f).2.2.1 ∈ wB) (hd : (TX2 f).1 = RX2) {v : Value} (hv : ([.ref (h.2.2 4 0), .int (σ.1 3 i 1), .int (σ.1 3 i 2), .int (σ.1 3 i 3), .int (σ.1 3 i 4)] : List Value)[f]? = some v) (hdg : decode cc pc = .ok (.getfield index, 3))
    (kk : W p l e R s m args below meth c H locs cells slots Q (F0 m (pc + 3) ls (v :: rest))) : W p l e R s m args below meth c H locs cells slots Q (F0 m pc ls (.ref (h.2.2 3 i) :: rest)) := getI C0 hK hW 3 i ha (ct3 i) (ci := 2) (C := RX2) (T := TX2) (N := 5) rfl inX2_B f hf hl hd hv hdg kk
theorem put3_1 (C0 : CallFix p m c cc nL s args wB own) (hK : KW g s) (hW : FW g h A σ H) (hS : va_S A H0 H locs) (i : Nat) (ha : al h 3 i) {v : Int32} {index : Nat} (hl : Cond.fieldLink own index RX2 (TX2 1).2.1 (TX2 1).2.2.1 ∈ wB) (hdg : decode cc pc = .ok (.putfield index, 3))
    (kk : ∀ (H1 : Heap) (locs1 : List Loc), FW g h A (sI σ 3 i 1 v) H1 → va_S A H0 H1 locs1 → W p l e R s m args below meth c H1 locs1 cells slots Q (F0 m (pc + 3) ls rest)) : W p l e R s m args below meth c H locs cells slots Q (F0 m pc ls (.int v :: .ref (h.2.2 3 i) :: rest)) :=
  putG C0 hK hW hS 3 i ha (ct3 i) (ci := 2) (C := RX2) (T := TX2) (N := 5) rfl inX2_B tyX2_ok nmX2 1 (by decide) hl rfl rfl rfl rfl (by simp) (sI σ 3 i 1 v) sI_off (by rw [ct3]; unfold sI; simp) hdg kk
theorem put3_2 (C0 : CallFix p m c cc nL s args wB own) (hK : KW g s) (hW : FW g h A σ H) (hS : va_S A H0 H locs) (i : Nat) (ha : al h 3 i) {v : Int32} {index : Nat} (hl : Cond.fieldLink own index RX2 (TX2 2).2.1 (TX2 2).2.2.1 ∈ wB) (hdg : decode cc pc = .ok (.putfield index, 3))
    (kk : ∀ (H1 : Heap) (locs1 : List Loc), FW g h A (sI σ 3 i 2 v) H1 → va_S A H0 H1 locs1 → W p l e R s m args below meth c H1 locs1 cells slots Q (F0 m (pc + 3) ls rest)) : W p l e R s m args below meth c H locs cells slots Q (F0 m pc ls (.int v :: .ref (h.2.2 3 i) :: rest)) :=
  putG C0 hK hW hS 3 i ha (ct3 i) (ci := 2) (C := RX2) (T := TX2) (N := 5) rfl inX2_B tyX2_ok nmX2 2 (by decide) hl rfl rfl rfl rfl (by simp) (sI σ 3 i 2 v) sI_off (by rw [ct3]; unfold sI; simp) hdg kk
theorem put3_3 (C0 : CallFix p m c cc nL s args wB own) (hK : KW g s) (hW : FW g h A σ H) (hS : va_S A H0 H locs) (i : Nat) (ha : al h 3 i) {v : Int32} {index : Nat} (hl : Cond.fieldLink own index RX2 (TX2 3).2.1 (TX2 3).2.2.1 ∈ wB) (hdg : decode cc pc = .ok (.putfield index, 3))
    (kk : ∀ (H1 : Heap) (locs1 : List Loc), FW g h A (sI σ 3 i 3 v) H1 → va_S A H0 H1 locs1 → W p l e R s m args below meth c H1 locs1 cells slots Q (F0 m (pc + 3) ls rest)) : W p l e R s m args below meth c H locs cells slots Q (F0 m pc ls (.int v :: .ref (h.2.2 3 i) :: rest)) :=
  putG C0 hK hW hS 3 i ha (ct3 i) (ci := 2) (C := RX2) (T := TX2) (N := 5) rfl inX2_B tyX2_ok nmX2 3 (by decide) hl rfl rfl rfl rfl (by simp) (sI σ 3 i 3 v) sI_off (by rw [ct3]; unfold sI; simp) hdg kk
theorem put3_4 (C0 : CallFix p m c cc nL s args wB own) (hK : KW g s) (hW : FW g h A σ H) (hS : va_S A H0 H locs) (i : Nat) (ha : al h 3 i) {v : Int32} {index : Nat} (hl : Cond.fieldLink own index RX2 (TX2 4).2.1 (TX2 4).2.2.1 ∈ wB) (hdg : decode cc pc = .ok (.putfield index, 3))
    (kk : ∀ (H1 : Heap) (locs1 : List Loc), FW g h A (sI σ 3 i 4 v) H1 → va_S A H0 H1 locs1 → W p l e R s m args below meth c H1 locs1 cells slots Q (F0 m (pc + 3) ls rest)) : W p l e R s m args below meth c H locs cells slots Q (F0 m pc ls (.int v :: .ref (h.2.2 3 i) :: rest)) :=
  putG C0 hK hW hS 3 i ha (ct3 i) (ci := 2) (C := RX2) (T := TX2) (N := 5) rfl inX2_B tyX2_ok nmX2 4 (by decide) hl rfl rfl rfl rfl (by simp) (sI σ 3 i 4 v) sI_off (by rw [ct3]; unfold sI; simp) hdg kk
theorem ct5 (i : Nat) : ct g h σ 5 i = .inr (3, [.int (σ.1 5 i 0), .int (σ.1 5 i 1), .long (σ.2 5 i 2), .int (σ.1 5 i 3), .int (σ.1 5 i 4), .int (σ.1 5 i 5), .long (σ.2 5 i 6), .int (σ.1 5 i 7)]) := rfl
theorem get5 (C0 : CallFix p m c cc nL s args wB own) (hK : KW g s) (hW : FW g h A σ H) (i : Nat) (ha : al h 5 i) (f : Nat) (hf : f < 8) {index : Nat} (hl : Cond.fieldLink own index RX3 (TX3 f).2.1 (TX3 f).2.2.1 ∈ wB) (hd : (TX3 f).1 = RX3) {v : Value} (hv : ([.int (σ.1 5 i 0), .int (σ.1 5 i 1), .long (σ.2 5 i 2), .int (σ.1 5 i 3), .int (σ.1 5 i 4), .int (σ.1 5 i 5), .long (σ.2 5 i 6), .int (σ.1 5 i 7)] : List Value)[f]? = some v) (hdg : decode cc pc = .ok (.getfield index, 3))
    (kk : W p l e R s m args below meth c H locs cells slots Q (F0 m (pc + 3) ls (v :: rest))) : W p l e R s m args below meth c H locs cells slots Q (F0 m pc ls (.ref (h.2.2 5 i) :: rest)) := getI C0 hK hW 5 i ha (ct5 i) (ci := 3) (C := RX3) (T := TX3) (N := 8) rfl inX3_B f hf hl hd hv hdg kk
theorem put5_1 (C0 : CallFix p m c cc nL s args wB own) (hK : KW g s) (hW : FW g h A σ H) (hS : va_S A H0 H locs) (i : Nat) (ha : al h 5 i) {v : Int32} {index : Nat} (hl : Cond.fieldLink own index RX3 (TX3 1).2.1 (TX3 1).2.2.1 ∈ wB) (hdg : decode cc pc = .ok (.putfield index, 3))
    (kk : ∀ (H1 : Heap) (locs1 : List Loc), FW g h A (sI σ 5 i 1 v) H1 → va_S A H0 H1 locs1 → W p l e R s m args below meth c H1 locs1 cells slots Q (F0 m (pc + 3) ls rest)) : W p l e R s m args below meth c H locs cells slots Q (F0 m pc ls (.int v :: .ref (h.2.2 5 i) :: rest)) :=
  putG C0 hK hW hS 5 i ha (ct5 i) (ci := 3) (C := RX3) (T := TX3) (N := 8) rfl inX3_B tyX3_ok nmX3 1 (by decide) hl rfl rfl rfl rfl (by simp) (sI σ 5 i 1 v) sI_off (by rw [ct5]; unfold sI; simp) hdg kk
theorem put5_2 (C0 : CallFix p m c cc nL s args wB own) (hK : KW g s) (hW : FW g h A σ H) (hS : va_S A H0 H locs) (i : Nat) (ha : al h 5 i) {v : Int64} {index : Nat} (hl : Cond.fieldLink own index RX3 (TX3 2).2.1 (TX3 2).2.2.1 ∈ wB) (hdg : decode cc pc = .ok (.putfield index, 3))
    (kk : ∀ (H1 : Heap) (locs1 : List Loc), FW g h A (sL σ 5 i 2 v) H1 → va_S A H0 H1 locs1 → W p l e R s m args below meth c H1 locs1 cells slots Q (F0 m (pc + 3) ls rest)) : W p l e R s m args below meth c H locs cells slots Q (F0 m pc ls (.long v :: .ref (h.2.2 5 i) :: rest)) :=
  putG C0 hK hW hS 5 i ha (ct5 i) (ci := 3) (C := RX3) (T := TX3) (N := 8) rfl inX3_B tyX3_ok nmX3 2 (by decide) hl rfl rfl rfl rfl (by simp) (sL σ 5 i 2 v) sL_off (by rw [ct5]; unfold sL; simp) hdg kk
theorem put5_3 (C0 : CallFix p m c cc nL s args wB own) (hK : KW g s) (hW : FW g h A σ H) (hS : va_S A H0 H locs) (i : Nat) (ha : al h 5 i) {v : Int32} {index : Nat} (hl : Cond.fieldLink own index RX3 (TX3 3).2.1 (TX3 3).2.2.1 ∈ wB) (hdg : decode cc pc = .ok (.putfield index, 3))
    (kk : ∀ (H1 : Heap) (locs1 : List Loc), FW g h A (sI σ 5 i 3 v) H1 → va_S A H0 H1 locs1 → W p l e R s m args below meth c H1 locs1 cells slots Q (F0 m (pc + 3) ls rest)) : W p l e R s m args below meth c H locs cells slots Q (F0 m pc ls (.int v :: .ref (h.2.2 5 i) :: rest)) :=
  putG C0 hK hW hS 5 i ha (ct5 i) (ci := 3) (C := RX3) (T := TX3) (N := 8) rfl inX3_B tyX3_ok nmX3 3 (by decide) hl rfl rfl rfl rfl (by simp) (sI σ 5 i 3 v) sI_off (by rw [ct5]; unfold sI; simp) hdg kk
theorem put5_4 (C0 : CallFix p m c cc nL s args wB own) (hK : KW g s) (hW : FW g h A σ H) (hS : va_S A H0 H locs) (i : Nat) (ha : al h 5 i) {v : Int32} (hz : v = 0 ∨ v = 1) {index : Nat} (hl : Cond.fieldLink own index RX3 (TX3 4).2.1 (TX3 4).2.2.1 ∈ wB) (hdg : decode cc pc = .ok (.putfield index, 3))
    (kk : ∀ (H1 : Heap) (locs1 : List Loc), FW g h A (sI σ 5 i 4 v) H1 → va_S A H0 H1 locs1 → W p l e R s m args below meth c H1 locs1 cells slots Q (F0 m (pc + 3) ls rest)) : W p l e R s m args below meth c H locs cells slots Q (F0 m pc ls (.int v :: .ref (h.2.2 5 i) :: rest)) :=
  putG C0 hK hW hS 5 i ha (ct5 i) (ci := 3) (C := RX3) (T := TX3) (N := 8) rfl inX3_B tyX3_ok nmX3 4 (by decide) hl rfl rfl (by rcases hz with rfl | rfl <;> rfl) (by rcases hz with rfl | rfl <;> rfl) (by simp) (sI σ 5 i 4 v) sI_off (by rw [ct5]; unfold sI; simp) hdg kk
theorem put5_5 (C0 : CallFix p m c cc nL s args wB own) (hK : KW g s) (hW : FW g h A σ H) (hS : va_S A H0 H locs) (i : Nat) (ha : al h 5 i) {v : Int32} {index : Nat} (hl : Cond.fieldLink own index RX3 (TX3 5).2.1 (TX3 5).2.2.1 ∈ wB) (hdg : decode cc pc = .ok (.putfield index, 3))
    (kk : ∀ (H1 : Heap) (locs1 : List Loc), FW g h A (sI σ 5 i 5 v) H1 → va_S A H0 H1 locs1 → W p l e R s m args below meth c H1 locs1 cells slots Q (F0 m (pc + 3) ls rest)) : W p l e R s m args below meth c H locs cells slots Q (F0 m pc ls (.int v :: .ref (h.2.2 5 i) :: rest)) :=
  putG C0 hK hW hS 5 i ha (ct5 i) (ci := 3) (C := RX3) (T := TX3) (N := 8) rfl inX3_B tyX3_ok nmX3 5 (by decide) hl rfl rfl rfl rfl (by simp) (sI σ 5 i 5 v) sI_off (by rw [ct5]; unfold sI; simp) hdg kk
theorem put5_6 (C0 : CallFix p m c cc nL s args wB own) (hK : KW g s) (hW : FW g h A σ H) (hS : va_S A H0 H locs) (i : Nat) (ha : al h 5 i) {v : Int64} {index : Nat} (hl : Cond.fieldLink own index RX3 (TX3 6).2.1 (TX3 6).2.2.1 ∈ wB) (hdg : decode cc pc = .ok (.putfield index, 3))
    (kk : ∀ (H1 : Heap) (locs1 : List Loc), FW g h A (sL σ 5 i 6 v) H1 → va_S A H0 H1 locs1 → W p l e R s m args below meth c H1 locs1 cells slots Q (F0 m (pc + 3) ls rest)) : W p l e R s m args below meth c H locs cells slots Q (F0 m pc ls (.long v :: .ref (h.2.2 5 i) :: rest)) :=
  putG C0 hK hW hS 5 i ha (ct5 i) (ci := 3) (C := RX3) (T := TX3) (N := 8) rfl inX3_B tyX3_ok nmX3 6 (by decide) hl rfl rfl rfl rfl (by simp) (sL σ 5 i 6 v) sL_off (by rw [ct5]; unfold sL; simp) hdg kk
theorem put5_7 (C0 : CallFix p m c cc nL s args wB own) (hK : KW g s) (hW : FW g h A σ H) (hS : va_S A H0 H locs) (i : Nat) (ha : al h 5 i) {v : Int32} {index : Nat} (hl : Cond.fieldLink own index RX3 (TX3 7).2.1 (TX3 7).2.2.1 ∈ wB) (hdg : decode cc pc = .ok (.putfield index, 3))
    (kk : ∀ (H1 : Heap) (locs1 : List Loc), FW g h A (sI σ 5 i 7 v) H1 → va_S A H0 H1 locs1 → W p l e R s m args below meth c H1 locs1 cells slots Q (F0 m (pc + 3) ls rest)) : W p l e R s m args below meth c H locs cells slots Q (F0 m pc ls (.int v :: .ref (h.2.2 5 i) :: rest)) :=
  putG C0 hK hW hS 5 i ha (ct5 i) (ci := 3) (C := RX3) (T := TX3) (N := 8) rfl inX3_B tyX3_ok nmX3 7 (by decide) hl rfl rfl rfl rfl (by simp) (sI σ 5 i 7 v) sI_off (by rw [ct5]; unfold sI; simp) hdg kk
theorem ct6 (i : Nat) : ct g h σ 6 i = .inr (0, [.int (σ.1 6 i 0), .int (σ.1 6 i 1), .int (σ.1 6 i 2), .int (σ.1 6 i 3), .int (σ.1 6 i 4), .ref (h.2.2 7 i), .ref (h.2.2 8 i), .ref (h.2.2 9 i), .int (σ.1 6 i 8), .int (σ.1 6 i 9), .long (σ.2 6 i 10), .long (σ.2 6 i 11), .int (σ.1 6 i 12), .long (σ.2 6 i 13), .int (σ.1 6 i 14)]) := rfl
theorem get6 (C0 : CallFix p m c cc nL s args wB own) (hK : KW g s) (hW : FW g h A σ H) (i : Nat) (ha : al h 6 i) (f : Nat) (hf : f < 15) {index : Nat} (hl : Cond.fieldLink own index RX0 (TX0 f).2.1 (TX0 f).2.2.1 ∈ wB) (hd : (TX0 f).1 = RX0) {v : Value} (hv : ([.int (σ.1 6 i 0), .int (σ.1 6 i 1), .int (σ.1 6 i 2), .int (σ.1 6 i 3), .int (σ.1 6 i 4), .ref (h.2.2 7 i), .ref (h.2.2 8 i), .ref (h.2.2 9 i), .int (σ.1 6 i 8), .int (σ.1 6 i 9), .long (σ.2 6 i 10), .long (σ.2 6 i 11), .int (σ.1 6 i 12), .long (σ.2 6 i 13), .int (σ.1 6 i 14)] : List Value)[f]? = some v) (hdg : decode cc pc = .ok (.getfield index, 3))
    (kk : W p l e R s m args below meth c H locs cells slots Q (F0 m (pc + 3) ls (v :: rest))) : W p l e R s m args below meth c H locs cells slots Q (F0 m pc ls (.ref (h.2.2 6 i) :: rest)) := getI C0 hK hW 6 i ha (ct6 i) (ci := 0) (C := RX0) (T := TX0) (N := 15) rfl inX0_B f hf hl hd hv hdg kk
theorem put6_8 (C0 : CallFix p m c cc nL s args wB own) (hK : KW g s) (hW : FW g h A σ H) (hS : va_S A H0 H locs) (i : Nat) (ha : al h 6 i) {v : Int32} {index : Nat} (hl : Cond.fieldLink own index RX0 (TX0 8).2.1 (TX0 8).2.2.1 ∈ wB) (hdg : decode cc pc = .ok (.putfield index, 3))
    (kk : ∀ (H1 : Heap) (locs1 : List Loc), FW g h A (sI σ 6 i 8 v) H1 → va_S A H0 H1 locs1 → W p l e R s m args below meth c H1 locs1 cells slots Q (F0 m (pc + 3) ls rest)) : W p l e R s m args below meth c H locs cells slots Q (F0 m pc ls (.int v :: .ref (h.2.2 6 i) :: rest)) :=
  putG C0 hK hW hS 6 i ha (ct6 i) (ci := 0) (C := RX0) (T := TX0) (N := 15) rfl inX0_B tyX0_ok nmX0 8 (by decide) hl rfl rfl rfl rfl (by simp) (sI σ 6 i 8 v) sI_off (by rw [ct6]; unfold sI; simp) hdg kk
theorem put6_9 (C0 : CallFix p m c cc nL s args wB own) (hK : KW g s) (hW : FW g h A σ H) (hS : va_S A H0 H locs) (i : Nat) (ha : al h 6 i) {v : Int32} (hz : v = 0 ∨ v = 1) {index : Nat} (hl : Cond.fieldLink own index RX0 (TX0 9).2.1 (TX0 9).2.2.1 ∈ wB) (hdg : decode cc pc = .ok (.putfield index, 3))
    (kk : ∀ (H1 : Heap) (locs1 : List Loc), FW g h A (sI σ 6 i 9 v) H1 → va_S A H0 H1 locs1 → W p l e R s m args below meth c H1 locs1 cells slots Q (F0 m (pc + 3) ls rest)) : W p l e R s m args below meth c H locs cells slots Q (F0 m pc ls (.int v :: .ref (h.2.2 6 i) :: rest)) :=
  putG C0 hK hW hS 6 i ha (ct6 i) (ci := 0) (C := RX0) (T := TX0) (N := 15) rfl inX0_B tyX0_ok nmX0 9 (by decide) hl rfl rfl (by rcases hz with rfl | rfl <;> rfl) (by rcases hz with rfl | rfl <;> rfl) (by simp) (sI σ 6 i 9 v) sI_off (by rw [ct6]; unfold sI; simp) hdg kk
theorem put6_10 (C0 : CallFix p m c cc nL s args wB own) (hK : KW g s) (hW : FW g h A σ H) (hS : va_S A H0 H locs) (i : Nat) (ha : al h 6 i) {v : Int64} {index : Nat} (hl : Cond.fieldLink own index RX0 (TX0 10).2.1 (TX0 10).2.2.1 ∈ wB) (hdg : decode cc pc = .ok (.putfield index, 3))
    (kk : ∀ (H1 : Heap) (locs1 : List Loc), FW g h A (sL σ 6 i 10 v) H1 → va_S A H0 H1 locs1 → W p l e R s m args below meth c H1 locs1 cells slots Q (F0 m (pc + 3) ls rest)) : W p l e R s m args below meth c H locs cells slots Q (F0 m pc ls (.long v :: .ref (h.2.2 6 i) :: rest)) :=
  putG C0 hK hW hS 6 i ha (ct6 i) (ci := 0) (C := RX0) (T := TX0) (N := 15) rfl inX0_B tyX0_ok nmX0 10 (by decide) hl rfl rfl rfl rfl (by simp) (sL σ 6 i 10 v) sL_off (by rw [ct6]; unfold sL; simp) hdg kk
theorem put6_11 (C0 : CallFix p m c cc nL s args wB own) (hK : KW g s) (hW : FW g h A σ H) (hS : va_S A H0 H locs) (i : Nat) (ha : al h 6 i) {v : Int64} {index : Nat} (hl : Cond.fieldLink own index RX0 (TX0 11).2.1 (TX0 11).2.2.1 ∈ wB) (hdg : decode cc pc = .ok (.putfield index, 3))
    (kk : ∀ (H1 : Heap) (locs1 : List Loc), FW g h A (sL σ 6 i 11 v) H1 → va_S A H0 H1 locs1 → W p l e R s m args below meth c H1 locs1 cells slots Q (F0 m (pc + 3) ls rest)) : W p l e R s m args below meth c H locs cells slots Q (F0 m pc ls (.long v :: .ref (h.2.2 6 i) :: rest)) :=
  putG C0 hK hW hS 6 i ha (ct6 i) (ci := 0) (C := RX0) (T := TX0) (N := 15) rfl inX0_B tyX0_ok nmX0 11 (by decide) hl rfl rfl rfl rfl (by simp) (sL σ 6 i 11 v) sL_off (by rw [ct6]; unfold sL; simp) hdg kk
theorem put6_12 (C0 : CallFix p m c cc nL s args wB own) (hK : KW g s) (hW : FW g h A σ H) (hS : va_S A H0 H locs) (i : Nat) (ha : al h 6 i) {v : Int32} {index : Nat} (hl : Cond.fieldLink own index RX0 (TX0 12).2.1 (TX0 12).2.2.1 ∈ wB) (hdg : decode cc pc = .ok (.putfield index, 3))
    (kk : ∀ (H1 : Heap) (locs1 : List Loc), FW g h A (sI σ 6 i 12 v) H1 → va_S A H0 H1 locs1 → W p l e R s m args below meth c H1 locs1 cells slots Q (F0 m (pc + 3) ls rest)) : W p l e R s m args below meth c H locs cells slots Q (F0 m pc ls (.int v :: .ref (h.2.2 6 i) :: rest)) :=
  putG C0 hK hW hS 6 i ha (ct6 i) (ci := 0) (C := RX0) (T := TX0) (N := 15) rfl inX0_B tyX0_ok nmX0 12 (by decide) hl rfl rfl rfl rfl (by simp) (sI σ 6 i 12 v) sI_off (by rw [ct6]; unfold sI; simp) hdg kk
theorem put6_13 (C0 : CallFix p m c cc nL s args wB own) (hK : KW g s) (hW : FW g h A σ H) (hS : va_S A H0 H locs) (i : Nat) (ha : al h 6 i) {v : Int64} {index : Nat} (hl : Cond.fieldLink own index RX0 (TX0 13).2.1 (TX0 13).2.2.1 ∈ wB) (hdg : decode cc pc = .ok (.putfield index, 3))
    (kk : ∀ (H1 : Heap) (locs1 : List Loc), FW g h A (sL σ 6 i 13 v) H1 → va_S A H0 H1 locs1 → W p l e R s m args below meth c H1 locs1 cells slots Q (F0 m (pc + 3) ls rest)) : W p l e R s m args below meth c H locs cells slots Q (F0 m pc ls (.long v :: .ref (h.2.2 6 i) :: rest)) :=
  putG C0 hK hW hS 6 i ha (ct6 i) (ci := 0) (C := RX0) (T := TX0) (N := 15) rfl inX0_B tyX0_ok nmX0 13 (by decide) hl rfl rfl rfl rfl (by simp) (sL σ 6 i 13 v) sL_off (by rw [ct6]; unfold sL; simp) hdg kk
theorem put6_14 (C0 : CallFix p m c cc nL s args wB own) (hK : KW g s) (hW : FW g h A σ H) (hS : va_S A H0 H locs) (i : Nat) (ha : al h 6 i) {v : Int32} {index : Nat} (hl : Cond.fieldLink own index RX0 (TX0 14).2.1 (TX0 14).2.2.1 ∈ wB) (hdg : decode cc pc = .ok (.putfield index, 3))
    (kk : ∀ (H1 : Heap) (locs1 : List Loc), FW g h A (sI σ 6 i 14 v) H1 → va_S A H0 H1 locs1 → W p l e R s m args below meth c H1 locs1 cells slots Q (F0 m (pc + 3) ls rest)) : W p l e R s m args below meth c H locs cells slots Q (F0 m pc ls (.int v :: .ref (h.2.2 6 i) :: rest)) :=
  putG C0 hK hW hS 6 i ha (ct6 i) (ci := 0) (C := RX0) (T := TX0) (N := 15) rfl inX0_B tyX0_ok nmX0 14 (by decide) hl rfl rfl rfl rfl (by simp) (sI σ 6 i 14 v) sI_off (by rw [ct6]; unfold sI; simp) hdg kk
theorem ct10 (i : Nat) : ct g h σ 10 i = .inr (1, [.ref (h.2.2 11 i), .ref (h.2.2 12 i), .int (σ.1 10 i 2)]) := rfl
theorem get10 (C0 : CallFix p m c cc nL s args wB own) (hK : KW g s) (hW : FW g h A σ H) (i : Nat) (ha : al h 10 i) (f : Nat) (hf : f < 3) {index : Nat} (hl : Cond.fieldLink own index RX1 (TX1 f).2.1 (TX1 f).2.2.1 ∈ wB) (hd : (TX1 f).1 = RX1) {v : Value} (hv : ([.ref (h.2.2 11 i), .ref (h.2.2 12 i), .int (σ.1 10 i 2)] : List Value)[f]? = some v) (hdg : decode cc pc = .ok (.getfield index, 3))
    (kk : W p l e R s m args below meth c H locs cells slots Q (F0 m (pc + 3) ls (v :: rest))) : W p l e R s m args below meth c H locs cells slots Q (F0 m pc ls (.ref (h.2.2 10 i) :: rest)) := getI C0 hK hW 10 i ha (ct10 i) (ci := 1) (C := RX1) (T := TX1) (N := 3) rfl inX1_B f hf hl hd hv hdg kk
theorem put10_2 (C0 : CallFix p m c cc nL s args wB own) (hK : KW g s) (hW : FW g h A σ H) (hS : va_S A H0 H locs) (i : Nat) (ha : al h 10 i) {v : Int32} {index : Nat} (hl : Cond.fieldLink own index RX1 (TX1 2).2.1 (TX1 2).2.2.1 ∈ wB) (hdg : decode cc pc = .ok (.putfield index, 3))
    (kk : ∀ (H1 : Heap) (locs1 : List Loc), FW g h A (sI σ 10 i 2 v) H1 → va_S A H0 H1 locs1 → W p l e R s m args below meth c H1 locs1 cells slots Q (F0 m (pc + 3) ls rest)) : W p l e R s m args below meth c H locs cells slots Q (F0 m pc ls (.int v :: .ref (h.2.2 10 i) :: rest)) :=
  putG C0 hK hW hS 10 i ha (ct10 i) (ci := 1) (C := RX1) (T := TX1) (N := 3) rfl inX1_B tyX1_ok nmX1 2 (by decide) hl rfl rfl rfl rfl (by simp) (sI σ 10 i 2 v) sI_off (by rw [ct10]; unfold sI; simp) hdg kk
theorem ct20 (i : Nat) : ct g h σ 20 i = .inr (5, [.int (σ.1 20 i 0), .int (σ.1 20 i 1), .int (σ.1 20 i 2), .int (σ.1 20 i 3), .ref (h.2.2 21 0), .ref (h.2.2 22 0), .ref (h.2.2 23 0), .ref (h.2.2 24 0), .ref (h.2.2 25 0), .ref (h.2.2 26 0), .int (σ.1 20 i 10), .int (σ.1 20 i 11), .ref (h.2.2 27 0), .int (σ.1 20 i 13), .ref (h.2.2 28 0), .ref (h.2.2 29 0)]) := rfl
theorem get20 (C0 : CallFix p m c cc nL s args wB own) (hK : KW g s) (hW : FW g h A σ H) (i : Nat) (ha : al h 20 i) (f : Nat) (hf : f < 16) {index : Nat} (hl : Cond.fieldLink own index RX5 (TX5 f).2.1 (TX5 f).2.2.1 ∈ wB) (hd : (TX5 f).1 = RX5) {v : Value} (hv : ([.int (σ.1 20 i 0), .int (σ.1 20 i 1), .int (σ.1 20 i 2), .int (σ.1 20 i 3), .ref (h.2.2 21 0), .ref (h.2.2 22 0), .ref (h.2.2 23 0), .ref (h.2.2 24 0), .ref (h.2.2 25 0), .ref (h.2.2 26 0), .int (σ.1 20 i 10), .int (σ.1 20 i 11), .ref (h.2.2 27 0), .int (σ.1 20 i 13), .ref (h.2.2 28 0), .ref (h.2.2 29 0)] : List Value)[f]? = some v) (hdg : decode cc pc = .ok (.getfield index, 3))
    (kk : W p l e R s m args below meth c H locs cells slots Q (F0 m (pc + 3) ls (v :: rest))) : W p l e R s m args below meth c H locs cells slots Q (F0 m pc ls (.ref (h.2.2 20 i) :: rest)) := getI C0 hK hW 20 i ha (ct20 i) (ci := 5) (C := RX5) (T := TX5) (N := 16) rfl inX5_B f hf hl hd hv hdg kk
theorem put20_0 (C0 : CallFix p m c cc nL s args wB own) (hK : KW g s) (hW : FW g h A σ H) (hS : va_S A H0 H locs) (i : Nat) (ha : al h 20 i) {v : Int32} {index : Nat} (hl : Cond.fieldLink own index RX5 (TX5 0).2.1 (TX5 0).2.2.1 ∈ wB) (hdg : decode cc pc = .ok (.putfield index, 3))
    (kk : ∀ (H1 : Heap) (locs1 : List Loc), FW g h A (sI σ 20 i 0 v) H1 → va_S A H0 H1 locs1 → W p l e R s m args below meth c H1 locs1 cells slots Q (F0 m (pc + 3) ls rest)) : W p l e R s m args below meth c H locs cells slots Q (F0 m pc ls (.int v :: .ref (h.2.2 20 i) :: rest)) :=
  putG C0 hK hW hS 20 i ha (ct20 i) (ci := 5) (C := RX5) (T := TX5) (N := 16) rfl inX5_B tyX5_ok nmX5 0 (by decide) hl rfl rfl rfl rfl (by simp) (sI σ 20 i 0 v) sI_off (by rw [ct20]; unfold sI; simp) hdg kk
theorem put20_1 (C0 : CallFix p m c cc nL s args wB own) (hK : KW g s) (hW : FW g h A σ H) (hS : va_S A H0 H locs) (i : Nat) (ha : al h 20 i) {v : Int32} {index : Nat} (hl : Cond.fieldLink own index RX5 (TX5 1).2.1 (TX5 1).2.2.1 ∈ wB) (hdg : decode cc pc = .ok (.putfield index, 3))
    (kk : ∀ (H1 : Heap) (locs1 : List Loc), FW g h A (sI σ 20 i 1 v) H1 → va_S A H0 H1 locs1 → W p l e R s m args below meth c H1 locs1 cells slots Q (F0 m (pc + 3) ls rest)) : W p l e R s m args below meth c H locs cells slots Q (F0 m pc ls (.int v :: .ref (h.2.2 20 i) :: rest)) :=
  putG C0 hK hW hS 20 i ha (ct20 i) (ci := 5) (C := RX5) (T := TX5) (N := 16) rfl inX5_B tyX5_ok nmX5 1 (by decide) hl rfl rfl rfl rfl (by simp) (sI σ 20 i 1 v) sI_off (by rw [ct20]; unfold sI; simp) hdg kk
theorem put20_2 (C0 : CallFix p m c cc nL s args wB own) (hK : KW g s) (hW : FW g h A σ H) (hS : va_S A H0 H locs) (i : Nat) (ha : al h 20 i) {v : Int32} {index : Nat} (hl : Cond.fieldLink own index RX5 (TX5 2).2.1 (TX5 2).2.2.1 ∈ wB) (hdg : decode cc pc = .ok (.putfield index, 3))
    (kk : ∀ (H1 : Heap) (locs1 : List Loc), FW g h A (sI σ 20 i 2 v) H1 → va_S A H0 H1 locs1 → W p l e R s m args below meth c H1 locs1 cells slots Q (F0 m (pc + 3) ls rest)) : W p l e R s m args below meth c H locs cells slots Q (F0 m pc ls (.int v :: .ref (h.2.2 20 i) :: rest)) :=
  putG C0 hK hW hS 20 i ha (ct20 i) (ci := 5) (C := RX5) (T := TX5) (N := 16) rfl inX5_B tyX5_ok nmX5 2 (by decide) hl rfl rfl rfl rfl (by simp) (sI σ 20 i 2 v) sI_off (by rw [ct20]; unfold sI; simp) hdg kk
theorem put20_3 (C0 : CallFix p m c cc nL s args wB own) (hK : KW g s) (hW : FW g h A σ H) (hS : va_S A H0 H locs) (i : Nat) (ha : al h 20 i) {v : Int32} {index : Nat} (hl : Cond.fieldLink own index RX5 (TX5 3).2.1 (TX5 3).2.2.1 ∈ wB) (hdg : decode cc pc = .ok (.putfield index, 3))
    (kk : ∀ (H1 : Heap) (locs1 : List Loc), FW g h A (sI σ 20 i 3 v) H1 → va_S A H0 H1 locs1 → W p l e R s m args below meth c H1 locs1 cells slots Q (F0 m (pc + 3) ls rest)) : W p l e R s m args below meth c H locs cells slots Q (F0 m pc ls (.int v :: .ref (h.2.2 20 i) :: rest)) :=
  putG C0 hK hW hS 20 i ha (ct20 i) (ci := 5) (C := RX5) (T := TX5) (N := 16) rfl inX5_B tyX5_ok nmX5 3 (by decide) hl rfl rfl rfl rfl (by simp) (sI σ 20 i 3 v) sI_off (by rw [ct20]; unfold sI; simp) hdg kk
theorem put20_10 (C0 : CallFix p m c cc nL s args wB own) (hK : KW g s) (hW : FW g h A σ H) (hS : va_S A H0 H locs) (i : Nat) (ha : al h 20 i) {v : Int32} {index : Nat} (hl : Cond.fieldLink own index RX5 (TX5 10).2.1 (TX5 10).2.2.1 ∈ wB) (hdg : decode cc pc = .ok (.putfield index, 3))
    (kk : ∀ (H1 : Heap) (locs1 : List Loc), FW g h A (sI σ 20 i 10 v) H1 → va_S A H0 H1 locs1 → W p l e R s m args below meth c H1 locs1 cells slots Q (F0 m (pc + 3) ls rest)) : W p l e R s m args below meth c H locs cells slots Q (F0 m pc ls (.int v :: .ref (h.2.2 20 i) :: rest)) :=
  putG C0 hK hW hS 20 i ha (ct20 i) (ci := 5) (C := RX5) (T := TX5) (N := 16) rfl inX5_B tyX5_ok nmX5 10 (by decide) hl rfl rfl rfl rfl (by simp) (sI σ 20 i 10 v) sI_off (by rw [ct20]; unfold sI; simp) hdg kk
theorem put20_11 (C0 : CallFix p m c cc nL s args wB own) (hK : KW g s) (hW : FW g h A σ H) (hS : va_S A H0 H locs) (i : Nat) (ha : al h 20 i) {v : Int32} {index : Nat} (hl : Cond.fieldLink own index RX5 (TX5 11).2.1 (TX5 11).2.2.1 ∈ wB) (hdg : decode cc pc = .ok (.putfield index, 3))
    (kk : ∀ (H1 : Heap) (locs1 : List Loc), FW g h A (sI σ 20 i 11 v) H1 → va_S A H0 H1 locs1 → W p l e R s m args below meth c H1 locs1 cells slots Q (F0 m (pc + 3) ls rest)) : W p l e R s m args below meth c H locs cells slots Q (F0 m pc ls (.int v :: .ref (h.2.2 20 i) :: rest)) :=
  putG C0 hK hW hS 20 i ha (ct20 i) (ci := 5) (C := RX5) (T := TX5) (N := 16) rfl inX5_B tyX5_ok nmX5 11 (by decide) hl rfl rfl rfl rfl (by simp) (sI σ 20 i 11 v) sI_off (by rw [ct20]; unfold sI; simp) hdg kk
theorem put20_13 (C0 : CallFix p m c cc nL s args wB own) (hK : KW g s) (hW : FW g h A σ H) (hS : va_S A H0 H locs) (i : Nat) (ha : al h 20 i) {v : Int32} (hz : v = 0 ∨ v = 1) {index : Nat} (hl : Cond.fieldLink own index RX5 (TX5 13).2.1 (TX5 13).2.2.1 ∈ wB) (hdg : decode cc pc = .ok (.putfield index, 3))
    (kk : ∀ (H1 : Heap) (locs1 : List Loc), FW g h A (sI σ 20 i 13 v) H1 → va_S A H0 H1 locs1 → W p l e R s m args below meth c H1 locs1 cells slots Q (F0 m (pc + 3) ls rest)) : W p l e R s m args below meth c H locs cells slots Q (F0 m pc ls (.int v :: .ref (h.2.2 20 i) :: rest)) :=
  putG C0 hK hW hS 20 i ha (ct20 i) (ci := 5) (C := RX5) (T := TX5) (N := 16) rfl inX5_B tyX5_ok nmX5 13 (by decide) hl rfl rfl (by rcases hz with rfl | rfl <;> rfl) (by rcases hz with rfl | rfl <;> rfl) (by simp) (sI σ 20 i 13 v) sI_off (by rw [ct20]; unfold sI; simp) hdg kk
end RW
end
section
/-! CONTRACTS OVER THE WORLD, AND CALLS -/
def exN (k : Nat) : String := if k = 1 then "java/lang/IndexOutOfBoundsException" else if k = 2 then "java/lang/IllegalArgumentException" else "java/lang/IllegalStateException"
def MI (l : Launch) (y : MethodName) (ws : List Cond) (fr lw mc ms lo : Nat) (g : Gx) (h : Sh) (av : List Value) (σ : Sg) (r : Int32) (σ1 : Sg) : Prop :=
  Met l y ws { frames := fr, cells := mc, slots := ms, locals := lw } (va_Pc av (WD lo g h σ)) (va_Qi (fun (r' : Int32) (_ : Unit) => r' = r) (fun _ t => FW g h (Ax lo) σ1 t.heap) (Ax lo)) mc ms (Ax lo)
def ML (l : Launch) (y : MethodName) (ws : List Cond) (fr lw mc ms lo : Nat) (g : Gx) (h : Sh) (av : List Value) (σ : Sg) (r : Int64) (σ1 : Sg) : Prop :=
  Met l y ws { frames := fr, cells := mc, slots := ms, locals := lw } (va_Pc av (WD lo g h σ)) (va_Ql (fun (r' : Int64) (_ : Unit) => r' = r) (fun _ t => FW g h (Ax lo) σ1 t.heap) (Ax lo)) mc ms (Ax lo)
def MV (l : Launch) (y : MethodName) (ws : List Cond) (fr lw mc ms lo : Nat) (g : Gx) (h : Sh) (av : List Value) (σ : Sg) (σ1 : Sg) : Prop :=
  Met l y ws { frames := fr, cells := mc, slots := ms, locals := lw } (va_Pc av (WD lo g h σ)) (va_Qv (fun (_ : Unit) => True) (fun _ t => FW g h (Ax lo) σ1 t.heap) (Ax lo)) mc ms (Ax lo)
def MR (l : Launch) (y : MethodName) (ws : List Cond) (fr lw mc ms lo : Nat) (g : Gx) (h : Sh) (av : List Value) (σ : Sg) (r : Option Nat) (σ1 : Sg) : Prop :=
  Met l y ws { frames := fr, cells := mc, slots := ms, locals := lw } (va_Pc av (WD lo g h σ)) (va_Qq (fun (r' : Option Nat) (_ : Unit) => r' = r) (fun _ t => FW g h (Ax lo) σ1 t.heap) (Ax lo)) mc ms (Ax lo)
def MX (l : Launch) (y : MethodName) (ws : List Cond) (fr lw mc ms lo : Nat) (g : Gx) (h : Sh) (av : List Value) (σ : Sg) (res : (Nat ⊕ Int32) × Sg) : Prop :=
  vx_Met l y ws { frames := fr, cells := mc, slots := ms, locals := lw } (va_Pc av (WD lo g h σ)) (va_Qi (fun (r' : Int32) (_ : Unit) => res.1 = .inr r') (fun _ t => FW g h (Ax lo) res.2 t.heap) (Ax lo)) (vx_X (fun _ : Unit => True) (fun E _ t => (∃ k, res.1 = .inl k ∧ E = exN k) ∧ FW g h (Ax lo) res.2 t.heap) (Ax lo)) mc ms (Ax lo)
theorem recvK {s : State} {g : Gx} {h : Sh} {σ : Sg} {A : Nat → Prop} {H : Heap} {k i ci : Nat} {fs : List Value} {C : String} {T : u_T} {N : Nat} (hK : KW g s) (hW : FW g h A σ H) (ha : al h k i) (he : ct g h σ k i = .inr (ci, fs)) (hc : vwCl[ci]? = some (C, T, N)) : ∃ cell : Cell, H[h.2.2 k i]? = some cell ∧ cell.vm.isStatics = false ∧ s.vm.findClass C = some cell.cls := by
  obtain ⟨ws, q, hP, -, hq, -⟩ := hW.cut ha
  rw [he] at hq
  exact va_recv hK.1 hP hc hq
section CALLS
variable {p : Program} {l : Launch} {e : Env} {R : Room} {s : State} {m : MethodId} {args : Array Value} {below : List Frame} {meth : Method} {c : Code} {H : Heap} {locs : List Loc} {cells slots : Nat} {Q : State → Prop}
variable {cc bytes : ByteArray} {pc nL maxL index n lo mc ms fr lw : Nat} {ls : Array Slot} {rest st0 As : List Value} {own C : String} {g : Gx} {h : Sh} {σ σ1 : Sg} {y : MethodName} {ret : Option FieldType} {b : Nat} {Qc : Array Value → State → Outcome → State → Prop}
theorem runV (C0 : CallFix p m c cc nL s args wB own) (hlo : lo ≤ s.heap.size) (hK : KW g s) (hZ : ZW lo s s.heap) (hW : FW g h (Ax lo) σ H) (hS : va_S (Ax lo) s.heap H locs)
    (hM : Met l y (ws_ y bytes maxL ret) { frames := fr, cells := mc, slots := ms, locals := lw } (va_Pc (.ref b :: As) (WD lo g h σ)) Qc mc ms (Ax lo))
    (hco : Cond.code y bytes maxL ret ∈ wB) (h1 : Cond.methodLink own index y ∈ wB) (h2 : Cond.instanceMethod y ∈ wB) (h3 : Cond.selects C y y ∈ wB) (h4 : Cond.initialized C ∈ wB)
    (hd : y.cls = C ∧ y.cls ≠ "java/lang/invoke/MethodHandle" ∧ y.cls ≠ "java/lang/invoke/VarHandle" ∧ (parseMethodDescriptor y.desc).map (fun d => d.parameters.length) = some n) (hR : fr + 1 ≤ R.frames ∧ 8 + (maxL + 11) + lw ≤ R.locals)
    (hrec : ∃ cell : Cell, H[b]? = some cell ∧ cell.vm.isStatics = false ∧ s.vm.findClass C = some cell.cls)
    (hn : As.length = n) (hsize : ls.size = nL) (hst : st0 = As.reverse ++ .ref b :: rest) (hrm : (rest.map fun v => v.category).sum ≤ 8) (hdg : decode cc pc = .ok (.invokevirtual index, 3)) (hf : cells + mc ≤ R.cells ∧ slots + ms ≤ R.slots) :
    va_Run p l e R s m args below meth c H locs cells slots mc ms (F0 m pc ls st0) rest (Qc (Value.ref b :: As).toArray) (Ax lo) :=
  va_runV (As := As) (rest := rest) C0 hM (cwV n C0.2.2.2.2 (gV (ws_good hco) h1 h2 h3 h4) rfl rfl rfl hd hR) ⟨WD.blind, hrec, fun U hU hw => ⟨rfl, WD.at hlo hK hZ hW hS U hU hw⟩⟩ rfl hn hsize hst (lv_room hrm) hdg hf
theorem runS (C0 : CallFix p m c cc nL s args wB own) (hlo : lo ≤ s.heap.size) (hK : KW g s) (hZ : ZW lo s s.heap) (hW : FW g h (Ax lo) σ H) (hS : va_S (Ax lo) s.heap H locs)
    (hM : Met l y (ws_ y bytes maxL ret) { frames := fr, cells := mc, slots := ms, locals := lw } (va_Pc As (WD lo g h σ)) Qc mc ms (Ax lo))
    (hco : Cond.code y bytes maxL ret ∈ wB) (h1 : Cond.methodLink own index y ∈ wB) (h2 : Cond.static y ∈ wB) (h3 : Cond.initialized y.cls ∈ wB)
    (hd : y.cls ≠ "java/lang/invoke/MethodHandle" ∧ y.cls ≠ "java/lang/invoke/VarHandle" ∧ (parseMethodDescriptor y.desc).map (fun d => d.parameters.length) = some n) (hR : fr + 1 ≤ R.frames ∧ 8 + (maxL + 11) + lw ≤ R.locals)
    (hn : As.length = n) (hsize : ls.size = nL) (hst : st0 = As.reverse ++ rest) (hrm : (rest.map fun v => v.category).sum ≤ 8) (hdg : decode cc pc = .ok (.invokestatic index, 3)) (hf : cells + mc ≤ R.cells ∧ slots + ms ≤ R.slots) :
    va_Run p l e R s m args below meth c H locs cells slots mc ms (F0 m pc ls st0) rest (Qc As.toArray) (Ax lo) :=
  va_runS (As := As) (rest := rest) C0 hM (va_cwS n C0.2.2.2.2 (gS (ws_good hco) h1 h2 h3) rfl rfl rfl hd hR) ⟨WD.blind, fun U hU hw => ⟨rfl, WD.at hlo hK hZ hW hS U hU hw⟩⟩ rfl hn hsize hst (lv_room hrm) hdg hf
theorem runN {host : String} (C0 : CallFix p m c cc nL s args wB own) (hlo : lo ≤ s.heap.size) (hK : KW g s) (hZ : ZW lo s s.heap) (hW : FW g h (Ax lo) σ H) (hS : va_S (Ax lo) s.heap H locs)
    (hM : Met l y (ws_ y bytes maxL ret) { frames := fr, cells := mc, slots := ms, locals := lw } (va_Pc As (WD lo g h σ)) Qc mc ms (Ax lo))
    (hco : Cond.code y bytes maxL ret ∈ wB) (h1 : (own, index, y, host) ∈ nstW) (h2 : Cond.static y ∈ wB) (h3 : Cond.initialized y.cls ∈ wB)
    (hd : y.cls ≠ "java/lang/invoke/MethodHandle" ∧ y.cls ≠ "java/lang/invoke/VarHandle" ∧ (parseMethodDescriptor y.desc).map (fun d => d.parameters.length) = some n) (hR : fr + 1 ≤ R.frames ∧ 8 + (maxL + 11) + lw ≤ R.locals)
    (hn : As.length = n) (hsize : ls.size = nL) (hst : st0 = As.reverse ++ rest) (hrm : (rest.map fun v => v.category).sum ≤ 8) (hdg : decode cc pc = .ok (.invokestatic index, 3)) (hf : cells + mc ≤ R.cells ∧ slots + ms ≤ R.slots) :
    va_Run p l e R s m args below meth c H locs cells slots mc ms (F0 m pc ls st0) rest (Qc As.toArray) (Ax lo) :=
  va_runSN (As := As) (rest := rest) C0 hM ⟨va_cnB n C0.2.2.2.2 (ws_good hco) rfl rfl rfl (hK.2.1 _ h1) (C0.2.2.2.2 _ h3) hd hR, C0.2.2.2.2 _ h2, trivial⟩ ⟨WD.blind, fun U hU hw => ⟨rfl, WD.at hlo hK hZ hW hS U hU hw⟩⟩ rfl hn hsize hst (lv_room hrm) hdg hf
theorem inI {a : Array Value} {r : Int32} (hr : va_Run p l e R s m args below meth c H locs cells slots mc ms (F0 m pc ls st0) rest (va_Qi (fun (r' : Int32) (_ : Unit) => r' = r) (fun _ t => FW g h (Ax lo) σ1 t.heap) (Ax lo) a) (Ax lo)) (hS : va_S (Ax lo) s.heap H locs)
    (kk : ∀ (H1 : Heap) (locs1 : List Loc), FW g h (Ax lo) σ1 H1 → va_S (Ax lo) s.heap H1 locs1 → W p l e R s m args below meth c H1 locs1 (cells + mc) (slots + ms) Q (F0 m (pc + 3) ls (.int r :: rest))) : W p l e R s m args below meth c H locs cells slots Q (F0 m pc ls st0) :=
  va_calli hr hS (fun _ _ q => q) (fun _ q => q) (fun r' u t H1 locs1 ht hvm hw hB hz hk hS1 => by subst hw; subst ht; exact kk _ _ hB hS1)
theorem inL {a : Array Value} {r : Int64} (hr : va_Run p l e R s m args below meth c H locs cells slots mc ms (F0 m pc ls st0) rest (va_Ql (fun (r' : Int64) (_ : Unit) => r' = r) (fun _ t => FW g h (Ax lo) σ1 t.heap) (Ax lo) a) (Ax lo)) (hS : va_S (Ax lo) s.heap H locs)
    (kk : ∀ (H1 : Heap) (locs1 : List Loc), FW g h (Ax lo) σ1 H1 → va_S (Ax lo) s.heap H1 locs1 → W p l e R s m args below meth c H1 locs1 (cells + mc) (slots + ms) Q (F0 m (pc + 3) ls (.long r :: rest))) : W p l e R s m args below meth c H locs cells slots Q (F0 m pc ls st0) :=
  va_calll hr hS (fun _ _ q => q) (fun _ q => q) (fun r' u t H1 locs1 ht hvm hw hB hz hk hS1 => by subst hw; subst ht; exact kk _ _ hB hS1)
theorem inV {a : Array Value} (hr : va_Run p l e R s m args below meth c H locs cells slots mc ms (F0 m pc ls st0) rest (va_Qv (fun (_ : Unit) => True) (fun _ t => FW g h (Ax lo) σ1 t.heap) (Ax lo) a) (Ax lo)) (hS : va_S (Ax lo) s.heap H locs)
    (kk : ∀ (H1 : Heap) (locs1 : List Loc), FW g h (Ax lo) σ1 H1 → va_S (Ax lo) s.heap H1 locs1 → W p l e R s m args below meth c H1 locs1 (cells + mc) (slots + ms) Q (F0 m (pc + 3) ls rest)) : W p l e R s m args below meth c H locs cells slots Q (F0 m pc ls st0) :=
  va_callv hr hS (fun _ _ q => q) (fun _ q => q) (fun u t H1 locs1 ht hvm hw hB hz hk hS1 => by subst ht; exact kk _ _ hB hS1)
theorem inR {a : Array Value} {r : Option Nat} (hr : va_Run p l e R s m args below meth c H locs cells slots mc ms (F0 m pc ls st0) rest (va_Qq (fun (r' : Option Nat) (_ : Unit) => r' = r) (fun _ t => FW g h (Ax lo) σ1 t.heap) (Ax lo) a) (Ax lo)) (hS : va_S (Ax lo) s.heap H locs)
    (kk : ∀ (H1 : Heap) (locs1 : List Loc), FW g h (Ax lo) σ1 H1 → va_S (Ax lo) s.heap H1 locs1 → W p l e R s m args below meth c H1 locs1 (cells + mc) (slots + ms) Q (F0 m (pc + 3) ls (va_rf r :: rest))) : W p l e R s m args below meth c H locs cells slots Q (F0 m pc ls st0) :=
  va_callq hr hS (fun _ _ q => q) (fun _ q => q) (fun r' u t H1 locs1 ht hvm hw hB hz hk hS1 => by subst hw; subst ht; exact kk _ _ hB hS1)
/-- the head of a body -/
theorem ofB {av : List Value} (hy : plainName y.cls = true) (hyo : y.cls = own)
    (body : ∀ (p : Program) (e : Env) (s : State) (m : MethodId) (below : List Frame) (meth : Method) (c : Code), CallFix p m c cc maxL s av.toArray wB own → meth.sig.returnType = ret → meth.locks = false → lo ≤ s.heap.size → KW g s → ZW lo s s.heap → FW g h (Ax lo) σ s.heap → va_S (Ax lo) s.heap s.heap [] → ∀ ls : Array Slot, lv_has ls maxL (lv_args 0 av) →
      W p l e { frames := fr, cells := mc, slots := ms, locals := lw } s m av.toArray below meth c s.heap [] 0 0 (MQ below Qc av.toArray s mc ms (Ax lo)) (F0 m 0 ls [])) (hlen : (lg_sl av).length ≤ maxL) :
    Met l y (ws_ y cc maxL ret) { frames := fr, cells := mc, slots := ms, locals := lw } (va_Pc av (WD lo g h σ)) Qc mc ms (Ax lo) := by
  refine Met.ofW (cc := cc) (maxL := maxL) (ret := ret) hy rfl ?_
  intro p e s m args below meth c s₁ B hml hv
  obtain ⟨rfl, hlo, hW, hK, hZ⟩ := hv
  have hts := atoms_spec (ws := ws_ y cc maxL ret) B.pre
  have hown : s.vm.findClass own = some m.cls := hyo ▸ findClass_of_methodNamed B.named
  rw [lg_entry_eq]
  exact body p e s m below meth c ⟨B.exec, B.bytes, hml, hown, fun w hw => hts w (List.mem_cons_of_mem _ hw)⟩ B.returns B.notSynchronized hlo hK hZ hW va_S.rf _ (lv_entry av hlen)
theorem retI {r : Int32} (C0 : CallFix p m c cc nL s args wB own) (hr : meth.sig.returnType = some .int) (hlk : meth.locks = false) (hW : FW g h (Ax lo) σ1 H) (hS : va_S (Ax lo) s.heap H locs) (hdg : decode cc pc = .ok (.ireturn, 1)) :
    W p l e R s m args below meth c H locs cells slots (MQ below (va_Qi (fun (r' : Int32) (_ : Unit) => r' = r) (fun _ t => FW g h (Ax lo) σ1 t.heap) (Ax lo)) args s cells slots (Ax lo)) (F0 m pc ls [.int r]) :=
  W.iret C0.1 C0.2.1 hr (fun t ht hw => ⟨⟨r, (), rfl, rfl, by subst ht; exact hW⟩, hS.F ht⟩) hS.2.2 hdg hlk
theorem retZ {r : Int32} (C0 : CallFix p m c cc nL s args wB own) (hr : meth.sig.returnType = some .boolean) (hlk : meth.locks = false) (hz : r = 0 ∨ r = 1) (hW : FW g h (Ax lo) σ1 H) (hS : va_S (Ax lo) s.heap H locs) (hdg : decode cc pc = .ok (.ireturn, 1)) :
    W p l e R s m args below meth c H locs cells slots (MQ below (va_Qi (fun (r' : Int32) (_ : Unit) => r' = r) (fun _ t => FW g h (Ax lo) σ1 t.heap) (Ax lo)) args s cells slots (Ax lo)) (F0 m pc ls [.int r]) :=
  W.zret C0.1 C0.2.1 hr (by rcases hz with rfl | rfl <;> rfl) (fun t ht hw => ⟨⟨r, (), rfl, rfl, by subst ht; exact hW⟩, hS.F ht⟩) hS.2.2 hdg hlk
theorem retL {r : Int64} (C0 : CallFix p m c cc nL s args wB own) (hr : meth.sig.returnType = some .long) (hlk : meth.locks = false) (hW : FW g h (Ax lo) σ1 H) (hS : va_S (Ax lo) s.heap H locs) (hdg : decode cc pc = .ok (.lreturn, 1)) :
    W p l e R s m args below meth c H locs cells slots (MQ below (va_Ql (fun (r' : Int64) (_ : Unit) => r' = r) (fun _ t => FW g h (Ax lo) σ1 t.heap) (Ax lo)) args s cells slots (Ax lo)) (F0 m pc ls [.long r]) :=
  W.lret C0.1 C0.2.1 hr (fun t ht hw => ⟨⟨r, (), rfl, rfl, by subst ht; exact hW⟩, hS.F ht⟩) hS.2.2 hdg hlk
theorem retV (C0 : CallFix p m c cc nL s args wB own) (hr : meth.sig.returnType = none) (hlk : meth.locks = false) (hW : FW g h (Ax lo) σ1 H) (hS : va_S (Ax lo) s.heap H locs) (hdg : decode cc pc = .ok (.return_, 1)) :
    W p l e R s m args below meth c H locs cells slots (MQ below (va_Qv (fun (_ : Unit) => True) (fun _ t => FW g h (Ax lo) σ1 t.heap) (Ax lo)) args s cells slots (Ax lo)) (F0 m pc ls []) :=
  W.vret C0.1 C0.2.1 hr (fun t ht hw => ⟨⟨(), rfl, trivial, by subst ht; exact hW⟩, hS.F ht⟩) hS.2.2 hdg hlk
theorem retR {rt : FieldType} {r : Option Nat} (C0 : CallFix p m c cc nL s args wB own) (hr : meth.sig.returnType = some rt) (hrt : (∃ n, rt = .object n) ∨ ∃ t, rt = .array t) (hlk : meth.locks = false) (hW : FW g h (Ax lo) σ1 H) (hS : va_S (Ax lo) s.heap H locs) (hdg : decode cc pc = .ok (.areturn, 1)) :
    W p l e R s m args below meth c H locs cells slots (MQ below (va_Qq (fun (r' : Option Nat) (_ : Unit) => r' = r) (fun _ t => FW g h (Ax lo) σ1 t.heap) (Ax lo)) args s cells slots (Ax lo)) (F0 m pc ls [va_rf r]) :=
  W.aret C0.1 C0.2.1 hr hrt (va_rf_or r) (fun t ht hw => ⟨⟨r, (), rfl, rfl, by subst ht; exact hW⟩, hS.F ht⟩) hS.2.2 hdg hlk
theorem bnd {α β : Type} {x : Option α} {f : α → Option β} {z : β} (hF : x.bind f = some z) : ∃ a, x = some a ∧ f a = some z := by
  cases x with
  | none => cases hF
  | some a => exact ⟨a, rfl, hF⟩
end CALLS
end
section
/-! small words of the pure functions, and the rows that go with them -/
def oc {α : Type} (t : Option Nat) (a : α) (b : Nat → α) : α := match t with
  | none => a
  | some i => b i
theorem oc_n {α : Type} (a : α) (b : Nat → α) : oc none a b = a := rfl
theorem oc_s {α : Type} (i : Nat) (a : α) (b : Nat → α) : oc (some i) a b = b i := rfl
def oe {β : Type} (t : Nat ⊕ Int32) (f : Int32 → Option β) : Option β := match t with
  | .inl _ => none
  | .inr r => f r
theorem oeD {β : Type} {t : Nat ⊕ Int32} {f : Int32 → Option β} {z : β} (hF : oe t f = some z) : ∃ r, t = .inr r ∧ f r = some z := by
  cases t with
  | inl k => cases hF
  | inr r => exact ⟨r, rfl, hF⟩
theorem grd {α : Type} {c : Prop} [Decidable c] {x : Option α} {z : α} (hF : (if c then none else x) = some z) : ¬ c ∧ x = some z := by
  by_cases hc : c
  · rw [if_pos hc] at hF; cases hF
  · rw [if_neg hc] at hF; exact ⟨hc, hF⟩
theorem grp {α : Type} {c : Prop} [Decidable c] {x : Option α} {z : α} (hF : (if c then x else none) = some z) : c ∧ x = some z := by
  by_cases hc : c
  · rw [if_pos hc] at hF; exact ⟨hc, hF⟩
  · rw [if_neg hc] at hF; cases hF
theorem cam_lt {nb b : Nat} {x : Int32} (hb : b < nb) (hg : ¬ (x < 0 ∨ 3 ≤ x.toNatClampNeg)) : 3 * b + x.toNatClampNeg < 3 * nb := by
  have : x.toNatClampNeg < 3 := Nat.not_le.mp fun q => hg (Or.inr q)
  omega
def mnI (x y : Int32) : Int32 := if y < x then y else x
def mxI (x y : Int32) : Int32 := if x < y then y else x
def mnL (x y : Int64) : Int64 := if y < x then y else x
section ROWS
variable {p : Program} {l : Launch} {e : Env} {R : Room} {s : State} {m : MethodId} {args : Array Value} {below : List Frame} {meth : Method} {c : Code} {H : Heap} {locs : List Loc} {cells slots : Nat} {Q : State → Prop}
variable {cc bytes : ByteArray} {pc nL maxL index n lo mc ms fr lw : Nat} {ls : Array Slot} {rest st0 As : List Value} {own C : String} {g : Gx} {h : Sh} {σ σ1 : Sg} {y : MethodName} {ret : Option FieldType} {b : Nat} {Qc : Array Value → State → Outcome → State → Prop}
theorem nspl {t : Option Nat} {ad : Nat → Nat} (k0 : t = none → W p l e R s m args below meth c H locs cells slots Q (F0 m pc ls (.null :: rest))) (k1 : ∀ i, t = some i → W p l e R s m args below meth c H locs cells slots Q (F0 m pc ls (.ref (ad i) :: rest))) : W p l e R s m args below meth c H locs cells slots Q (F0 m pc ls (va_rf (t.map ad) :: rest)) := by
  cases t with
  | none => exact k0 rfl
  | some i => exact k1 i rfl
theorem r_min {x y : Int32} (C0 : CallFix p m c cc nL s args wB own) (hs : ls.size = nL) (h1 : Cond.methodLink own index Lib.Math.min.name ∈ wB) (h2 : 1 ≤ R.frames) (h3 : (rest.map fun v => v.category).sum + 13 ≤ R.locals) (h4 : cells ≤ R.cells) (h5 : slots ≤ R.slots) (hdg : decode cc pc = .ok (.invokestatic index, 3))
    (kk : W p l e R s m args below meth c H locs cells slots Q (F0 m (pc + 3) ls (.int (mnI x y) :: rest))) : W p l e R s m args below meth c H locs cells slots Q (F0 m pc ls (.int y :: .int x :: rest)) :=
  va_mmin C0.1 C0.2.1 (C0.2.2.1.trans hs.symm) C0.2.2.2.1 (C0.2.2.2.2 _ h1) (C0.2.2.2.2 _ wST_J9_min_7cf53) (C0.2.2.2.2 _ wIN_J9) (C0.2.2.2.2 _ wCO_J9_min_7cf53) h2 h3 h4 h5 hdg kk
theorem r_max {x y : Int32} (C0 : CallFix p m c cc nL s args wB own) (hs : ls.size = nL) (h1 : Cond.methodLink own index Lib.Math.max.name ∈ wB) (h2 : 1 ≤ R.frames) (h3 : (rest.map fun v => v.category).sum + 13 ≤ R.locals) (h4 : cells ≤ R.cells) (h5 : slots ≤ R.slots) (hdg : decode cc pc = .ok (.invokestatic index, 3))
    (kk : W p l e R s m args below meth c H locs cells slots Q (F0 m (pc + 3) ls (.int (mxI x y) :: rest))) : W p l e R s m args below meth c H locs cells slots Q (F0 m pc ls (.int y :: .int x :: rest)) :=
  va_mmax C0.1 C0.2.1 (C0.2.2.1.trans hs.symm) C0.2.2.2.1 (C0.2.2.2.2 _ h1) (C0.2.2.2.2 _ wST_J9_max_7cf53) (C0.2.2.2.2 _ wIN_J9) (C0.2.2.2.2 _ wCO_J9_max_7cf53) h2 h3 h4 h5 hdg kk
theorem r_minl {x y : Int64} (C0 : CallFix p m c cc nL s args wB own) (hs : ls.size = nL) (h1 : Cond.methodLink own index Lib.MathLoose.min_long.x ∈ wB) (h2 : 1 ≤ R.frames) (h3 : (rest.map fun v => v.category).sum + 15 ≤ R.locals) (h4 : cells ≤ R.cells) (h5 : slots ≤ R.slots) (hdg : decode cc pc = .ok (.invokestatic index, 3))
    (kk : W p l e R s m args below meth c H locs cells slots Q (F0 m (pc + 3) ls (.long (mnL x y) :: rest))) : W p l e R s m args below meth c H locs cells slots Q (F0 m pc ls (.long y :: .long x :: rest)) :=
  va_mmin_long C0.1 C0.2.1 (C0.2.2.1.trans hs.symm) C0.2.2.2.1 (C0.2.2.2.2 _ h1) (C0.2.2.2.2 _ wST_J9_min_f86c9) (C0.2.2.2.2 _ wIN_J9) (C0.2.2.2.2 _ wCO_J9_min_f86c9) h2 h3 h4 h5 hdg kk
/-- a body that may throw -/
theorem ofX {av : List Value} {XC : String → State → State → Prop} (hy : plainName y.cls = true) (hyo : y.cls = own)
    (body : ∀ (p : Program) (e : Env) (s : State) (m : MethodId) (below : List Frame) (meth : Method) (c : Code), CallFix p m c cc maxL s av.toArray wB own → meth.sig.returnType = ret → meth.locks = false → lo ≤ s.heap.size → KW g s → ZW lo s s.heap → FW g h (Ax lo) σ s.heap → va_S (Ax lo) s.heap s.heap [] → (∀ x ∈ c.exceptionTable.toList, False) → ∀ ls : Array Slot, lv_has ls maxL (lv_args 0 av) →
      W p l e { frames := fr, cells := mc, slots := ms, locals := lw } s m av.toArray below meth c s.heap [] 0 0 (vx_MQ below Qc XC av.toArray s mc ms (Ax lo)) (F0 m 0 ls [])) (hlen : (lg_sl av).length ≤ maxL) :
    vx_Met l y (ws_ y cc maxL ret) { frames := fr, cells := mc, slots := ms, locals := lw } (va_Pc av (WD lo g h σ)) Qc XC mc ms (Ax lo) := by
  refine vx_ofW (cc := cc) (maxL := maxL) (ret := ret) hy rfl ?_
  intro p e s m args below meth c s₁ B hml htb hv
  obtain ⟨rfl, hlo, hW, hK, hZ⟩ := hv
  have hts := atoms_spec (ws := ws_ y cc maxL ret) B.pre
  have hown : s.vm.findClass own = some m.cls := hyo ▸ findClass_of_methodNamed B.named
  rw [lg_entry_eq]
  exact body p e s m below meth c ⟨B.exec, B.bytes, hml, hown, fun w hw => hts w (List.mem_cons_of_mem _ hw)⟩ B.returns B.notSynchronized hlo hK hZ hW va_S.rf htb _ (lv_entry av hlen)
theorem retX {r : Int32} {res : (Nat ⊕ Int32) × Sg} (C0 : CallFix p m c cc nL s args wB own) (hr : meth.sig.returnType = some .int) (hlk : meth.locks = false) (he : res.1 = .inr r) (hW : FW g h (Ax lo) res.2 H) (hS : va_S (Ax lo) s.heap H locs) (hdg : decode cc pc = .ok (.ireturn, 1)) :
    W p l e R s m args below meth c H locs cells slots (MQ below (va_Qi (fun (r' : Int32) (_ : Unit) => res.1 = .inr r') (fun _ t => FW g h (Ax lo) res.2 t.heap) (Ax lo)) args s cells slots (Ax lo)) (F0 m pc ls [.int r]) :=
  W.iret C0.1 C0.2.1 hr (fun t ht hw => ⟨⟨r, (), rfl, he, by subst ht; exact hW⟩, hS.F ht⟩) hS.2.2 hdg hlk
theorem retXZ {r : Int32} {res : (Nat ⊕ Int32) × Sg} (C0 : CallFix p m c cc nL s args wB own) (hr : meth.sig.returnType = some .boolean) (hlk : meth.locks = false) (hz : r = 0 ∨ r = 1) (he : res.1 = .inr r) (hW : FW g h (Ax lo) res.2 H) (hS : va_S (Ax lo) s.heap H locs) (hdg : decode cc pc = .ok (.ireturn, 1)) :
    W p l e R s m args below meth c H locs cells slots (MQ below (va_Qi (fun (r' : Int32) (_ : Unit) => res.1 = .inr r') (fun _ t => FW g h (Ax lo) res.2 t.heap) (Ax lo)) args s cells slots (Ax lo)) (F0 m pc ls [.int r]) :=
  W.zret C0.1 C0.2.1 hr (by rcases hz with rfl | rfl <;> rfl) (fun t ht hw => ⟨⟨r, (), rfl, he, by subst ht; exact hW⟩, hS.F ht⟩) hS.2.2 hdg hlk
abbrev nms : List String := ["java/lang/RuntimeException", "java/lang/Exception"]
theorem vxA1 : ∀ w ∈ (vx_atS RX4 59 (exN 1) nms).filter goodWord, w ∈ wB := by decide +kernel
theorem vxA2 : ∀ w ∈ (vx_atS RX4 36 (exN 2) nms).filter goodWord, w ∈ wB := by decide +kernel
theorem vxA3 : ∀ w ∈ (vx_atS RX4 47 (exN 3) nms).filter goodWord, w ∈ wB := by decide +kernel
theorem vxB1 : ∀ w ∈ (vx_atS RX4 59 (exN 1) nms).filter (fun w => !goodWord w), w ∈ Cond.castable (exN 1) (exN 1) :: dclW.map Cond.declares := by decide +kernel
theorem vxB2 : ∀ w ∈ (vx_atS RX4 36 (exN 2) nms).filter (fun w => !goodWord w), w ∈ Cond.castable (exN 2) (exN 2) :: dclW.map Cond.declares := by decide +kernel
theorem vxB3 : ∀ w ∈ (vx_atS RX4 47 (exN 3) nms).filter (fun w => !goodWord w), w ∈ Cond.castable (exN 3) (exN 3) :: dclW.map Cond.declares := by decide +kernel
theorem vxO1 : ∀ w ∈ Cond.classLink RX4 55 (exN 1) :: Cond.initialized (exN 1) :: vx_atS RX4 59 (exN 1) nms, vx_ot w = true := by decide +kernel
theorem vxO2 : ∀ w ∈ Cond.classLink RX4 32 (exN 2) :: Cond.initialized (exN 2) :: vx_atS RX4 36 (exN 2) nms, vx_ot w = true := by decide +kernel
theorem vxO3 : ∀ w ∈ Cond.classLink RX4 43 (exN 3) :: Cond.initialized (exN 3) :: vx_atS RX4 47 (exN 3) nms, vx_ot w = true := by decide +kernel
theorem nms_fit : ∀ n ∈ nms, Bundle.fit n = true := by decide +kernel
theorem FW.kept {A : Nat → Prop} {H1 : Heap} (hW : FW g h A σ H) (hk : ∀ q : Nat, q < H.size → H1[q]? = H[q]?) : FW g h A σ H1 := by
  obtain ⟨L, f, hP, hD, hR, hJ⟩ := hW
  exact ⟨L, f, hP.kept (fun k q hq => hk q.1 (hP k q hq).lt), hD, hR, hJ⟩
def XCr (res : (Nat ⊕ Int32) × Sg) (lo : Nat) (g : Gx) (h : Sh) : String → State → State → Prop := vx_X (fun _ : Unit => True) (fun E _ t => (∃ k, res.1 = .inl k ∧ E = exN k) ∧ FW g h (Ax lo) res.2 t.heap) (Ax lo)
theorem thrX {res : (Nat ⊕ Int32) × Sg} {k : Nat} (hW : FW g h (Ax lo) res.2 H) (hS : va_S (Ax lo) s.heap H locs) (he : res.1 = .inl k) (t : State) (h1 : H.size ≤ t.heap.size) (h2 : ∀ q : Nat, q < H.size → t.heap[q]? = H[q]?) : XCr res lo g h (exN k) s t :=
  ⟨(), trivial, ⟨⟨k, he, rfl⟩, hW.kept h2⟩, Nat.le_trans hS.1 h1, fun q hq hA => (h2 q (Nat.lt_of_lt_of_le hq hS.1)).trans (hS.2.1 q hq hA)⟩
theorem thrS {res : (Nat ⊕ Int32) × Sg} {k ik ic is : Nat} {text : String} (C0 : CallFix p m c cc nL s args wB RX4) (hnt : l.stackTraces = false) (hlk : meth.locks = false) (hK : KW g s) (hZ : ZW lo s s.heap) (hW : FW g h (Ax lo) res.2 H) (hS : va_S (Ax lo) s.heap H locs) (hsz : ls.size = nL) (htb : ∀ x ∈ c.exceptionTable.toList, False) (hE : exN k ∈ exs) (hfit : Bundle.fit (exN k) = true) (hcl : Cond.classLink RX4 ik (exN k) ∈ wB) (hini : Cond.initialized (exN k) ∈ wB)
    (hA : ∀ w ∈ (vx_atS RX4 ic (exN k) nms).filter goodWord, w ∈ wB) (hB : ∀ w ∈ (vx_atS RX4 ic (exN k) nms).filter (fun w => !goodWord w), w ∈ Cond.castable (exN k) (exN k) :: dclW.map Cond.declares) (hO : ∀ w ∈ Cond.classLink RX4 ik (exN k) :: Cond.initialized (exN k) :: vx_atS RX4 ic (exN k) nms, vx_ot w = true) (hstr : (is, text) ∈ strW)
    (d0 : decode cc pc = .ok (.new ik, 3)) (d3 : decode cc (pc + 3) = .ok (.dup, 1)) (d4 : decode cc (pc + 4) = .ok (.ldc is, 2)) (d6 : decode cc (pc + 6) = .ok (.invokespecial ic, 3)) (d9 : decode cc (pc + 9) = .ok (.athrow, 1))
    (hf : 6 ≤ R.frames) (hlw : (rest.map fun v => v.category).sum + 82 ≤ R.locals) (hc : 1 ≤ R.cells) (hs : 6 ≤ R.slots) (he : res.1 = .inl k) :
    W p l e R s m args below meth c H locs 0 0 (vx_MQ below Qc (XCr res lo g h) args s 1 6 (Ax lo)) (F0 m pc ls rest) :=
  vx_throwS (names := nms) C0.1 C0.2.1 hnt C0.2.2.2.1 hfit nms_fit (C0.2.2.2.2 _ hcl) (C0.2.2.2.2 _ hini) (hK.2.2.1 _ hstr)
    (vx_hat (fun w hw => C0.2.2.2.2 _ (hA w hw)) hB (fun w hw => by
      rcases List.mem_cons.mp hw with rfl | hw
      · exact va_Nw.use rfl (hK.2.2.2.1 _ hE)
      · obtain ⟨x, hx, rfl⟩ := List.mem_map.mp hw
        exact va_Nw.use rfl (hK.2.2.2.2.2 x hx))) hO hZ.1 hZ.2 hS (hsz.trans C0.2.2.1.symm) d0 d3 d4 d6 d9 (fun x hx => (htb x hx).elim) hf hlw (by rw [Nat.zero_add]; exact hc) (by rw [Nat.zero_add]; exact hs) hlk
    (fun t _ h1 h2 => thrX hW hS he t h1 h2) hS.2.2 (Nat.le_refl _) (Nat.le_refl _)
theorem thrSW {res : (Nat ⊕ Int32) × Sg} {k ik ic is : Nat} {text : String} (C0 : CallFix p m c cc nL s args wB RX4) (hnt : l.stackTraces = false) (hlk : meth.locks = false) (hK : KW g s) (hZ : ZW lo s s.heap) (hW : FW g h (Ax lo) res.2 H) (hS : va_S (Ax lo) s.heap H locs) (hsz : ls.size = nL) (htb : ∀ x ∈ c.exceptionTable.toList, False) (hE : exN k ∈ exs) (hfit : Bundle.fit (exN k) = true) (hcl : Cond.classLink RX4 ik (exN k) ∈ wB) (hini : Cond.initialized (exN k) ∈ wB)
    (hA : ∀ w ∈ (vx_atS RX4 ic (exN k) nms).filter goodWord, w ∈ wB) (hB : ∀ w ∈ (vx_atS RX4 ic (exN k) nms).filter (fun w => !goodWord w), w ∈ Cond.castable (exN k) (exN k) :: dclW.map Cond.declares) (hO : ∀ w ∈ Cond.classLink RX4 ik (exN k) :: Cond.initialized (exN k) :: vx_atS RX4 ic (exN k) nms, vx_ot w = true) (hstr : (is, text) ∈ strW)
    (d0 : decode cc pc = .ok (.new ik, 3)) (d3 : decode cc (pc + 3) = .ok (.dup, 1)) (d4 : decode cc (pc + 4) = .ok (.ldc_w is, 3)) (d6 : decode cc (pc + 7) = .ok (.invokespecial ic, 3)) (d9 : decode cc (pc + 10) = .ok (.athrow, 1))
    (hf : 6 ≤ R.frames) (hlw : (rest.map fun v => v.category).sum + 82 ≤ R.locals) (hc : 1 ≤ R.cells) (hs : 6 ≤ R.slots) (he : res.1 = .inl k) :
    W p l e R s m args below meth c H locs 0 0 (vx_MQ below Qc (XCr res lo g h) args s 1 6 (Ax lo)) (F0 m pc ls rest) :=
  vx_throwSW (names := nms) C0.1 C0.2.1 hnt C0.2.2.2.1 hfit nms_fit (C0.2.2.2.2 _ hcl) (C0.2.2.2.2 _ hini) (hK.2.2.1 _ hstr)
    (vx_hat (fun w hw => C0.2.2.2.2 _ (hA w hw)) hB (fun w hw => by
      rcases List.mem_cons.mp hw with rfl | hw
      · exact va_Nw.use rfl (hK.2.2.2.1 _ hE)
      · obtain ⟨x, hx, rfl⟩ := List.mem_map.mp hw
        exact va_Nw.use rfl (hK.2.2.2.2.2 x hx))) hO hZ.1 hZ.2 hS (hsz.trans C0.2.2.1.symm) d0 d3 d4 d6 d9 (fun x hx => (htb x hx).elim) hf hlw (by rw [Nat.zero_add]; exact hc) (by rw [Nat.zero_add]; exact hs) hlk
    (fun t _ h1 h2 => thrX hW hS he t h1 h2) hS.2.2 (Nat.le_refl _) (Nat.le_refl _)
theorem exs1 : exN 1 ∈ exs := by decide
theorem exs2 : exN 2 ∈ exs := by decide
theorem exs3 : exN 3 ∈ exs := by decide
theorem fit1 : Bundle.fit (exN 1) = true := by decide +kernel
theorem fit2 : Bundle.fit (exN 2) = true := by decide +kernel
theorem fit3 : Bundle.fit (exN 3) = true := by decide +kernel
theorem runVX {XC : String → State → State → Prop} (C0 : CallFix p m c cc nL s args wB own) (hlo : lo ≤ s.heap.size) (hK : KW g s) (hZ : ZW lo s s.heap) (hW : FW g h (Ax lo) σ H) (hS : va_S (Ax lo) s.heap H locs)
    (hM : vx_Met l y (ws_ y bytes maxL ret) { frames := fr, cells := mc, slots := ms, locals := lw } (va_Pc (.ref b :: As) (WD lo g h σ)) Qc XC mc ms (Ax lo))
    (hco : Cond.code y bytes maxL ret ∈ wB) (h1 : Cond.methodLink own index y ∈ wB) (h2 : Cond.instanceMethod y ∈ wB) (h3 : Cond.selects C y y ∈ wB) (h4 : Cond.initialized C ∈ wB)
    (hd : y.cls = C ∧ y.cls ≠ "java/lang/invoke/MethodHandle" ∧ y.cls ≠ "java/lang/invoke/VarHandle" ∧ (parseMethodDescriptor y.desc).map (fun d => d.parameters.length) = some n) (hR : fr + 1 ≤ R.frames ∧ 8 + (maxL + 11) + lw ≤ R.locals)
    (hrec : ∃ cell : Cell, H[b]? = some cell ∧ cell.vm.isStatics = false ∧ s.vm.findClass C = some cell.cls)
    (hn : As.length = n) (hsize : ls.size = nL) (hst : st0 = As.reverse ++ .ref b :: rest) (hrm : (rest.map fun v => v.category).sum ≤ 8) (hdg : decode cc pc = .ok (.invokevirtual index, 3)) (hf : cells + mc ≤ R.cells ∧ slots + ms ≤ R.slots) :
    vx_Run p l e R s m args below meth c H locs cells slots mc ms (F0 m pc ls st0) rest (Qc (Value.ref b :: As).toArray) XC (Ax lo) :=
  vx_runV (As := As) (rest := rest) C0 hM (cwV n C0.2.2.2.2 (gV (ws_good hco) h1 h2 h3 h4) rfl rfl rfl hd hR) ⟨WD.blind, hrec, fun U hU hw => ⟨rfl, WD.at hlo hK hZ hW hS U hU hw⟩⟩ rfl hn hsize hst (lv_room hrm) hdg hf
theorem inX {a : Array Value} {res : (Nat ⊕ Int32) × Sg} {r : Int32} (hr : vx_Run p l e R s m args below meth c H locs cells slots mc ms (F0 m pc ls st0) rest (va_Qi (fun (r' : Int32) (_ : Unit) => res.1 = .inr r') (fun _ t => FW g h (Ax lo) res.2 t.heap) (Ax lo) a) (XCr res lo g h) (Ax lo)) (hS : va_S (Ax lo) s.heap H locs) (he : res.1 = .inr r)
    (kk : ∀ (H1 : Heap) (locs1 : List Loc), FW g h (Ax lo) res.2 H1 → va_S (Ax lo) s.heap H1 locs1 → W p l e R s m args below meth c H1 locs1 (cells + mc) (slots + ms) Q (F0 m (pc + 3) ls (.int r :: rest))) : W p l e R s m args below meth c H locs cells slots Q (F0 m pc ls st0) :=
  vx_calli hr hS (fun _ _ q => q) (fun _ q => q) (fun _ _ q => q) (fun E ce q9 u t H1 locs1 ht hvm hp hB => by
    obtain ⟨⟨k, hk, -⟩, -⟩ := hB
    rw [he] at hk; cases hk) (fun r' u t H1 locs1 ht hvm hw hB hz hk hS1 => by
    have : r' = r := by rw [he] at hw; exact (Sum.inr.inj hw).symm
    subst this; subst ht; exact kk _ _ hB hS1)
theorem wB_ot {w : Cond} (h : w ∈ wB) : vx_ot w = true := by
  rcases (wB_good w h).2 with h1 | ⟨ty, rfl⟩
  · simp only [Bool.and_eq_true] at h1
    simp [vx_ot, h1.1]
  · rfl
end ROWS
end
