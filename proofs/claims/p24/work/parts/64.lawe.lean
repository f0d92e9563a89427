/-! THE LAW'S BUILD: PINS -/
/-- all but one keep what they held -/
def xNe (X X' : Nat → Option va_E) (q : Nat) : Prop := ∀ a e, a ≠ q → X a = some e → X' a = some e
theorem xNe.rf {X : Nat → Option va_E} {q : Nat} : xNe X X q := fun _ _ _ h => h
theorem PI.ini {g : Gx} {X : Nat → Option va_E} {B : Ab} {k a1 : Nat} (h1 : X a1 = some (Er (fun _ => none) 0 (g.2.2.2.1 0))) (h7 : ∀ x, B 7 k x = 0) (h8 : B 6 k 8 = 0) : PI g X B k a1 0 (fun _ => none) (fun _ => 0) (fun _ => 0) (fun _ => 0) (fun _ _ => 0) :=
  ⟨h1, fun j hj => absurd hj (Nat.not_lt_zero j), fun px py _ hb => by rw [h7, Nat.zero_div] at hb; exact absurd hb (by decide), h8⟩
section LAWE
variable {p : Program} {l : Launch} {e : Env} {R : Room} {s : State} {m : MethodId} {args : Array Value} {below : List Frame} {meth : Method} {c : Code} {H : Heap} {locs : List Loc} {cells slots : Nat} {Q : State → Prop}
variable {lo b sim : Nat} {ls : Array Slot} {g : Gx}
theorem pi475 (C0 : CallFix p m c cL_build 19 s args wB RL) (hK : KW g s) {h : Sh} {σ : Sg} {X : Nat → Option va_E} {B : Ab} {ns nb k q pn i px py a1 mm : Nat} {xv yv : Int32} {f : Nat → Option Nat} {A x y : Nat → Nat} {F : Nat → Nat → Int32} (hP : PI g X B k a1 mm f A x y F) (hm : mm < 1000) (hn : B 6 k 2 ≤ 96) (hpx : px < B 6 k 2) (hpy : py < 6) (hW : FW (gX g X) h (Ax lo) σ H) : ∀ (k9 i2 : Nat) (vz : Int32) (ls : Array Slot), i2 + k9 = mm → (vz = 0 → ∀ j, j < i2 → ¬ (x j = px ∧ y j = py)) → lv_has ls 19 [(0, .ref (h.2.2 0 0)), (1, .ref (b)), (2, .int (nI (30000))), (3, .ref (sim)), (4, .int (nI (ns))), (5, .int (nI (nb))), (6, .int (nI (k))), (7, .int (xv)), (8, .ref (q)), (9, .int (nI (pn))), (10, .int (nI (i))), (11, .int (yv)), (12, .int (nI (px))), (13, .int (nI (py))), (14, .int (vz)), (15, .ref (a1)), (16, .int (nI (mm))), (17, .int (nI (i2)))] →
    (∀ (vz : Int32) (ls : Array Slot), (vz = 0 → ∀ j, j < mm → ¬ (x j = px ∧ y j = py)) → lv_has ls 19 [(0, .ref (h.2.2 0 0)), (1, .ref (b)), (2, .int (nI (30000))), (3, .ref (sim)), (4, .int (nI (ns))), (5, .int (nI (nb))), (6, .int (nI (k))), (7, .int (xv)), (8, .ref (q)), (9, .int (nI (pn))), (10, .int (nI (i))), (11, .int (yv)), (12, .int (nI (px))), (13, .int (nI (py))), (14, .int (vz))] → W p l e R s m args below meth c H locs cells slots Q (F0 m 525 ls [])) → W p l e R s m args below meth c H locs cells slots Q (F0 m 475 ls []) := by
  have hx := C0.1
  have hb := C0.2.1
  intro k9
  induction k9 with
  | zero =>
    intro i2 vz ls hi hv hl kk
    refine lv_iload hx hb dL_build_475 (lv_at hl 17 rfl) ?_
    refine lv_iload hx hb dL_build_477 (lv_at hl 16 rfl) ?_
    refine lv_icmp_ge (tgt := 525) hx hb dL_build_479 (by decide) (fun _ => ?_) (fun c9 => absurd (nI_le (by omega) (by omega)) c9)
    exact kk vz ls (fun z j hj => hv z j (by omega)) (lv_sub hl [0, 1, 2, 3, 4, 5, 6, 7, 8, 9, 10, 11, 12, 13, 14] rfl)
  | succ k9 ih =>
    intro i2 vz ls hi hv hl kk
    obtain ⟨b1, b2, b3, b4, b5, b6⟩ := hP.2.1 i2 (by omega)
    refine lv_iload hx hb dL_build_475 (lv_at hl 17 rfl) ?_
    refine lv_iload hx hb dL_build_477 (lv_at hl 16 rfl) ?_
    refine lv_icmp_ge (tgt := 525) hx hb dL_build_479 (by decide) (fun c9 => absurd c9 (nI_ge (by omega) (by omega))) (fun _ => ?_)
    refine lv_aload hx hb dL_build_482 (lv_at hl 15 rfl) ?_
    refine lv_iload hx hb dL_build_484 (lv_at hl 17 rfl) ?_
    refine xrl C0 hK hW 6 hP.1 rfl rfl (nI_in (by omega) (by omega)) dL_build_486 ?_
    rw [nI_clamp (by omega), b1]
    refine lv_astore (lv' := [(18, .ref (A i2)), (0, .ref (h.2.2 0 0)), (1, .ref (b)), (2, .int (nI (30000))), (3, .ref (sim)), (4, .int (nI (ns))), (5, .int (nI (nb))), (6, .int (nI (k))), (7, .int (xv)), (8, .ref (q)), (9, .int (nI (pn))), (10, .int (nI (i))), (11, .int (yv)), (12, .int (nI (px))), (13, .int (nI (py))), (14, .int (vz)), (15, .ref (a1)), (16, .int (nI (mm))), (17, .int (nI (i2)))]) hx hb dL_build_487 hl (by decide) rfl (fun ls hl => ?_)
    have key : ∀ (vz : Int32), (vz = 0 → ∀ j, j < i2 + 1 → ¬ (x j = px ∧ y j = py)) → W p l e R s m args below meth c H locs cells slots Q (F0 m 517 ls [.int vz]) := by
      intro vz hv
      refine lv_istore (lv' := [(14, .int (vz)), (18, .ref (A i2)), (0, .ref (h.2.2 0 0)), (1, .ref (b)), (2, .int (nI (30000))), (3, .ref (sim)), (4, .int (nI (ns))), (5, .int (nI (nb))), (6, .int (nI (k))), (7, .int (xv)), (8, .ref (q)), (9, .int (nI (pn))), (10, .int (nI (i))), (11, .int (yv)), (12, .int (nI (px))), (13, .int (nI (py))), (15, .ref (a1)), (16, .int (nI (mm))), (17, .int (nI (i2)))]) hx hb dL_build_517 hl (by decide) rfl (fun ls hl => ?_)
      refine lv_iinc (v := nI (i2 + 1)) (lv' := [(17, .int (nI (i2 + 1))), (14, .int (vz)), (18, .ref (A i2)), (0, .ref (h.2.2 0 0)), (1, .ref (b)), (2, .int (nI (30000))), (3, .ref (sim)), (4, .int (nI (ns))), (5, .int (nI (nb))), (6, .int (nI (k))), (7, .int (xv)), (8, .ref (q)), (9, .int (nI (pn))), (10, .int (nI (i))), (11, .int (yv)), (12, .int (nI (px))), (13, .int (nI (py))), (15, .ref (a1)), (16, .int (nI (mm)))]) hx hb dL_build_519 hl (k := 18) rfl (nI_1 _) (by decide) rfl (fun ls hl => ?_)
      refine lv_goto (tgt := 475) hx hb dL_build_522 (by decide) ?_
      exact ih (i2 + 1) vz ls (by omega) hv (lv_sub hl [3, 4, 5, 6, 7, 8, 9, 10, 11, 12, 13, 14, 15, 16, 1, 17, 18, 0] rfl) kk
    have yes : W p l e R s m args below meth c H locs cells slots Q (F0 m 512 ls []) := by
      refine lv_iconst (v := nI 1) hx hb dL_build_512 (by decide) ?_
      refine lv_goto (tgt := 517) hx hb dL_build_513 (by decide) ?_
      exact key (nI 1) (fun z => absurd z (by decide))
    have no : (∀ j, j < i2 + 1 → ¬ (x j = px ∧ y j = py)) → W p l e R s m args below meth c H locs cells slots Q (F0 m 516 ls []) := by
      intro hno
      refine lv_iconst (v := nI 0) hx hb dL_build_516 (by decide) ?_
      exact key (nI 0) (fun _ => hno)
    refine lv_iload hx hb dL_build_489 (lv_at hl 15 rfl) ?_
    refine lv_if_ne (tgt := 512) hx hb dL_build_491 (by decide) (fun _ => yes) (fun c0 => ?_)
    refine lv_aload hx hb dL_build_494 (lv_at hl 0 rfl) ?_
    refine lv_iconst (v := nI 0) hx hb dL_build_496 (by decide) ?_
    refine xil C0 hK hW b2 (nI_in (by omega) (by omega)) dL_build_497 ?_
    rw [nI_clamp (by omega), b3]
    refine lv_iload hx hb dL_build_498 (lv_at hl 13 rfl) ?_
    refine lv_icmp_ne (tgt := 516) hx hb dL_build_500 (by decide) (fun c1 => no (fun j hj z => ?_)) (fun c1 => ?_)
    · by_cases hji : j = i2
      · exact c1 (congrArg nI (by rw [← hji]; exact z.1))
      · exact hv c0 j (by omega) z
    refine lv_aload hx hb dL_build_503 (lv_at hl 0 rfl) ?_
    refine lv_iconst (v := nI 1) hx hb dL_build_505 (by decide) ?_
    refine xil C0 hK hW b2 (nI_in (by omega) (by omega)) dL_build_506 ?_
    rw [nI_clamp (by omega), b4]
    refine lv_iload hx hb dL_build_507 (lv_at hl 14 rfl) ?_
    refine lv_icmp_ne (tgt := 516) hx hb dL_build_509 (by decide) (fun c1 => no (fun j hj z => ?_)) (fun c1 => yes)
    by_cases hji : j = i2
    · exact c1 (congrArg nI (by rw [← hji]; exact z.2))
    · exact hv c0 j (by omega) z
theorem pi405 (C0 : CallFix p m c cL_build 19 s args wB RL) (hlo : lo ≤ s.heap.size) (hK : KW g s) (hRf : 8 ≤ R.frames) (hRl : 250 ≤ R.locals) {L : Nat} {xs : Nat → Int32} (hX : va_X b L xs s s.heap) (hb9 : b < lo) (hL : L ≤ 260) {h : Sh} {X0 : Nat → Option va_E} {B0 : Ab} {ns nb k q pn a2 a3 C1 S1 : Nat} {xv s' w' p' q' : Int32} (hC1 : C1 ≤ R.cells) (hS1 : S1 ≤ R.slots) (hk : k < h.2.1) (hk4 : k < 4) (hpn : pn ≤ 8) : ∀ (k9 i : Nat) (σ : Sg) (X : Nat → Option va_E) (B : Ab) (a1 mm : Nat) (f : Nat → Option Nat) (A x y : Nat → Nat) (F : Nat → Nat → Int32) (cells slots : Nat) (H : Heap) (locs : List Loc) (ls : Array Slot), i + k9 = pn → cells + 2 * k9 ≤ C1 → slots + 12 * k9 ≤ S1 → mm ≤ i → PI g X B k a1 mm f A x y F → X q = some (birdE s' w' (nI (B0 6 k 2)) p' q' a1 a2 a3) → Cm B h.1 h.2.1 σ → Wf B h.1 h.2.1 1 → (∀ k9 i9 f9, ¬ (k9 = 7 ∨ (k9 = 6 ∧ f9 = 8)) → B k9 i9 f9 = B0 k9 i9 f9) → xNe X0 X q → FW (gX g X) h (Ax lo) σ H → va_S (Ax lo) s.heap H locs → lv_has ls 19 [(0, .ref (h.2.2 0 0)), (1, .ref (b)), (2, .int (nI (30000))), (3, .ref (sim)), (4, .int (nI (ns))), (5, .int (nI (nb))), (6, .int (nI (k))), (7, .int (xv)), (8, .ref (q)), (9, .int (nI (pn))), (10, .int (nI (i)))] →
    (∀ (σ : Sg) (X : Nat → Option va_E) (B : Ab) (a1 : Nat) (H : Heap) (locs : List Loc) (ls : Array Slot), X q = some (birdE s' w' (nI (B0 6 k 2)) p' q' a1 a2 a3) → Cm B h.1 h.2.1 σ → Wf B h.1 h.2.1 1 → (∀ k9 i9 f9, ¬ (k9 = 7 ∨ (k9 = 6 ∧ f9 = 8)) → B k9 i9 f9 = B0 k9 i9 f9) → xNe X0 X q → FW (gX g X) h (Ax lo) σ H → va_S (Ax lo) s.heap H locs → lv_has ls 19 [(0, .ref (h.2.2 0 0)), (1, .ref (b)), (2, .int (nI (30000))), (3, .ref (sim)), (4, .int (nI (ns))), (5, .int (nI (nb))), (6, .int (nI (k))), (7, .int (xv)), (8, .ref (q))] → W p l e R s m args below meth c H locs C1 S1 Q (F0 m 586 ls [])) → W p l e R s m args below meth c H locs cells slots Q (F0 m 405 ls []) := by
  have hx := C0.1
  have hb := C0.2.1
  have hA : ∀ q : Nat, s.heap.size ≤ q → Ax lo q := fun q hq => Nat.le_trans hlo hq
  intro k9
  induction k9 with
  | zero =>
    intro i σ X B a1 mm f A x y F cells slots H locs ls hi hc9 hs9 hmi hP hq hC hF hfr hne hW hS hl kk
    refine lv_iload hx hb dL_build_405 (lv_at hl 10 rfl) ?_
    refine lv_iload hx hb dL_build_407 (lv_at hl 9 rfl) ?_
    refine lv_icmp_ge (tgt := 586) hx hb dL_build_409 (by decide) (fun _ => ?_) (fun c9 => absurd (nI_le (by omega) (by omega)) c9)
    exact W.widen (by omega) (by omega) (kk σ X B a1 H locs ls hq hC hF hfr hne hW hS (lv_sub hl [0, 1, 2, 3, 4, 5, 6, 7, 8] rfl))
  | succ k9 ih =>
    intro i σ X B a1 mm f A x y F cells slots H locs ls hi hc9 hs9 hmi hP hq hC hF hfr hne hW hS hl kk
    obtain ⟨-, -, n8, n96, -⟩ := hF.2.2.2.2.1 k hk
    have e62 : B 6 k 2 = B0 6 k 2 := hfr 6 k 2 (by omega)
    rw [← e62] at hq
    refine lv_iload hx hb dL_build_405 (lv_at hl 10 rfl) ?_
    refine lv_iload hx hb dL_build_407 (lv_at hl 9 rfl) ?_
    refine lv_icmp_ge (tgt := 586) hx hb dL_build_409 (by decide) (fun c9 => absurd c9 (nI_ge (by omega) (by omega))) (fun _ => ?_)
    refine lv_aload_n hx hb dL_build_412 rfl (lv_at hl 1 rfl) ?_
    refine lv_bipush (v := nI 9) hx hb dL_build_413 (by decide) ?_
    refine lv_iload hx hb dL_build_415 (lv_at hl 6 rfl) ?_
    refine lv_iadd hx hb dL_build_417 ?_
    rw [nI_add]
    refine lv_iload hx hb dL_build_418 (lv_at hl 10 rfl) ?_
    refine lv_iadd hx hb dL_build_420 ?_
    rw [nI_add]
    refine lv_bipush (v := nI 16) hx hb dL_build_421 (by decide) ?_
    refine lv_irem hx hb dL_build_423 (by decide) ?_
    rw [pk_rem (by omega) (by decide) (by decide)]
    refine cCell C0 hlo hK hW hS (k := (9 + k + i) % 16) hX hb9 hL (by omega) hRf hRl (by omega) (by omega) hl.1 (Nat.le_of_ble_eq_true rfl) dL_build_424 (fun v1 H locs hW hS => ?_)
    refine lv_iconst (v := nI 2) hx hb dL_build_427 (by decide) ?_
    refine lv_iload hx hb dL_build_428 (lv_at hl 10 rfl) ?_
    refine lv_imul hx hb dL_build_430 ?_
    rw [pk_mul]
    refine lv_ishr hx hb dL_build_431 ?_
    obtain ⟨yv, eyv⟩ : ∃ yv : Int32, yv = (v1) >>> ((nI (2 * i)) &&& 31) := ⟨_, rfl⟩
    rw [← eyv]
    refine lv_istore (lv' := [(11, .int (yv)), (0, .ref (h.2.2 0 0)), (1, .ref (b)), (2, .int (nI (30000))), (3, .ref (sim)), (4, .int (nI (ns))), (5, .int (nI (nb))), (6, .int (nI (k))), (7, .int (xv)), (8, .ref (q)), (9, .int (nI (pn))), (10, .int (nI (i)))]) hx hb dL_build_432 hl (by decide) rfl (fun ls hl => ?_)
    refine lv_iload hx hb dL_build_434 (lv_at hl 0 rfl) ?_
    refine lv_aload hx hb dL_build_436 (lv_at hl 9 rfl) ?_
    refine xgf (ci := 5) (C := RX5) (T := TX5) (N := 12) C0 hK hW hq rfl inX5_B 2 (by decide) wFL_L_57 rfl rfl dL_build_438 ?_
    refine cBelow C0 hlo hK hW hS (n := B 6 k 2) (by omega) (by omega) hRf hRl (by omega) (by omega) hl.1 (Nat.le_of_ble_eq_true rfl) dL_build_441 (fun px H locs hpx hW hS => ?_)
    refine lv_istore (lv' := [(12, .int (nI (px))), (11, .int (yv)), (0, .ref (h.2.2 0 0)), (1, .ref (b)), (2, .int (nI (30000))), (3, .ref (sim)), (4, .int (nI (ns))), (5, .int (nI (nb))), (6, .int (nI (k))), (7, .int (xv)), (8, .ref (q)), (9, .int (nI (pn))), (10, .int (nI (i)))]) hx hb dL_build_444 hl (by decide) rfl (fun ls hl => ?_)
    refine lv_iload hx hb dL_build_446 (lv_at hl 1 rfl) ?_
    refine lv_iconst (v := nI 5) hx hb dL_build_448 (by decide) ?_
    refine lv_ishr hx hb dL_build_449 ?_
    refine lv_bipush (v := nI 6) hx hb dL_build_450 (by decide) ?_
    refine cBelow C0 hlo hK hW hS (n := 6) (by decide) (by decide) hRf hRl (by omega) (by omega) hl.1 (Nat.le_of_ble_eq_true rfl) dL_build_452 (fun py H locs hpy hW hS => ?_)
    refine lv_istore (lv' := [(13, .int (nI (py))), (12, .int (nI (px))), (11, .int (yv)), (0, .ref (h.2.2 0 0)), (1, .ref (b)), (2, .int (nI (30000))), (3, .ref (sim)), (4, .int (nI (ns))), (5, .int (nI (nb))), (6, .int (nI (k))), (7, .int (xv)), (8, .ref (q)), (9, .int (nI (pn))), (10, .int (nI (i)))]) hx hb dL_build_455 hl (by decide) rfl (fun ls hl => ?_)
    refine lv_iconst (v := nI 0) hx hb dL_build_457 (by decide) ?_
    refine lv_istore (lv' := [(14, .int (nI (0))), (13, .int (nI (py))), (12, .int (nI (px))), (11, .int (yv)), (0, .ref (h.2.2 0 0)), (1, .ref (b)), (2, .int (nI (30000))), (3, .ref (sim)), (4, .int (nI (ns))), (5, .int (nI (nb))), (6, .int (nI (k))), (7, .int (xv)), (8, .ref (q)), (9, .int (nI (pn))), (10, .int (nI (i)))]) hx hb dL_build_458 hl (by decide) rfl (fun ls hl => ?_)
    refine lv_aload hx hb dL_build_460 (lv_at hl 12 rfl) ?_
    refine xgf (ci := 5) (C := RX5) (T := TX5) (N := 12) C0 hK hW hq rfl inX5_B 9 (by decide) wFL_L_70 rfl rfl dL_build_462 ?_
    refine lv_astore (lv' := [(15, .ref (a1)), (14, .int (nI (0))), (13, .int (nI (py))), (12, .int (nI (px))), (11, .int (yv)), (0, .ref (h.2.2 0 0)), (1, .ref (b)), (2, .int (nI (30000))), (3, .ref (sim)), (4, .int (nI (ns))), (5, .int (nI (nb))), (6, .int (nI (k))), (7, .int (xv)), (8, .ref (q)), (9, .int (nI (pn))), (10, .int (nI (i)))]) hx hb dL_build_465 hl (by decide) rfl (fun ls hl => ?_)
    refine lv_aload hx hb dL_build_467 (lv_at hl 0 rfl) ?_
    refine xln (v := nI mm) C0 hK hW 6 hP.1 rfl rfl dL_build_469 ?_
    refine lv_istore (lv' := [(16, .int (nI (mm))), (15, .ref (a1)), (14, .int (nI (0))), (13, .int (nI (py))), (12, .int (nI (px))), (11, .int (yv)), (0, .ref (h.2.2 0 0)), (1, .ref (b)), (2, .int (nI (30000))), (3, .ref (sim)), (4, .int (nI (ns))), (5, .int (nI (nb))), (6, .int (nI (k))), (7, .int (xv)), (8, .ref (q)), (9, .int (nI (pn))), (10, .int (nI (i)))]) hx hb dL_build_470 hl (by decide) rfl (fun ls hl => ?_)
    refine lv_iconst (v := nI 0) hx hb dL_build_472 (by decide) ?_
    refine lv_istore (lv' := [(17, .int (nI (0))), (16, .int (nI (mm))), (15, .ref (a1)), (14, .int (nI (0))), (13, .int (nI (py))), (12, .int (nI (px))), (11, .int (yv)), (0, .ref (h.2.2 0 0)), (1, .ref (b)), (2, .int (nI (30000))), (3, .ref (sim)), (4, .int (nI (ns))), (5, .int (nI (nb))), (6, .int (nI (k))), (7, .int (xv)), (8, .ref (q)), (9, .int (nI (pn))), (10, .int (nI (i)))]) hx hb dL_build_473 hl (by decide) rfl (fun ls hl => ?_)
    refine pi475 C0 hK hP (by omega) n96 hpx hpy hW mm 0 (nI 0) ls (by omega) (fun _ j hj => absurd hj (Nat.not_lt_zero j)) (lv_sub hl [7, 8, 9, 10, 11, 12, 13, 14, 15, 16, 17, 6, 5, 4, 3, 2, 1, 0] rfl) (fun vz ls hv hl => ?_)
    refine lv_iload hx hb dL_build_525 (lv_at hl 14 rfl) ?_
    refine lv_if_eq (tgt := 533) hx hb dL_build_527 (by decide) (fun c0 => ?_) (fun _ => ?_)
    · refine lv_aload hx hb dL_build_533 (lv_at hl 8 rfl) ?_
      refine lv_aload hx hb dL_build_535 (lv_at hl 8 rfl) ?_
      refine xgf (ci := 5) (C := RX5) (T := TX5) (N := 12) C0 hK hW hq rfl inX5_B 9 (by decide) wFL_L_70 rfl rfl dL_build_537 ?_
      refine lv_iconst (v := nI 2) hx hb dL_build_540 (by decide) ?_
      refine xni (N := 2) C0 hK hW hS hA (nI_pos (by omega)) (nI_clamp (by omega)) (by omega) (by omega) (by omega) dL_build_541 (fun a H ha hW hS => ?_)
      refine lv_dup hx hb dL_build_543 rfl ?_
      refine lv_iconst (v := nI 0) hx hb dL_build_544 (by decide) ?_
      refine lv_iload hx hb dL_build_545 (lv_at hl 12 rfl) ?_
      refine xis C0 hK hW hS (xU_self _ _ _) (nI_in (by omega) (by omega)) dL_build_547 (fun H locs hW hS => ?_)
      rw [xU_tw, nI_clamp (by omega)] at hW
      refine lv_dup hx hb dL_build_548 rfl ?_
      refine lv_iconst (v := nI 1) hx hb dL_build_549 (by decide) ?_
      refine lv_iload hx hb dL_build_550 (lv_at hl 13 rfl) ?_
      refine xis C0 hK hW hS (xU_self _ _ _) (nI_in (by omega) (by omega)) dL_build_552 (fun H locs hW hS => ?_)
      rw [xU_tw, nI_clamp (by omega)] at hW
      obtain ⟨Fa, eF⟩ : ∃ Fa, Fa = upd (upd (fun _ => 0) 0 (nI px)) 1 (nI py) := ⟨_, rfl⟩
      rw [← eF] at hW
      have f0 : Fa 0 = nI px := by rw [eF]; rfl
      have f1 : Fa 1 = nI py := by rw [eF]; rfl
      have hW : FW (gX g (xU X a (Ei Fa 2 g.2.1.1))) h (Ax lo) σ H := hW
      have leA : xLe X (xU X a (Ei Fa 2 g.2.1.1)) := xLe.nw ha
      refine cWith C0 hlo hK hW hS (leA _ _ hP.1) (xU_self X a (Ei Fa 2 g.2.1.1)) (fun j hj => ?_) (by omega) hRf hRl (by omega) (by omega) hl.1 (Nat.le_of_ble_eq_true rfl) dL_build_553 (fun ar H locs har hW hS => ?_)
      · obtain ⟨b1, b2, -⟩ := hP.2.1 j hj
        exact ⟨_, _, b1, leA _ _ b2⟩
      have hq2 := xLe.nw (e := Er (fun j => if j < mm then f j else if j = mm then some a else none) (mm + 1) (g.2.2.2.1 0)) har _ _ (leA _ _ hq)
      refine xpf (ci := 5) (C := RX5) (T := TX5) (N := 12) C0 hK hW hS hq2 rfl inX5_B tyX5_ok nmX5 9 (by decide) wFL_L_70 rfl rfl rfl rfl (Nat.le_of_ble_eq_true rfl) dL_build_556 (fun H locs hW hS => ?_)
      have hP2 := hP.add (e' := birdE s' w' (nI (B 6 k 2)) p' q' ar a2 a3) hq ha har f0 f1 hpx hpy (hF.2.2.2.2.2.1.1 k px)
      have hW : FW (gX g (xU (xU (xU X a (Ei Fa 2 g.2.1.1)) ar (Er (fun j => if j < mm then f j else if j = mm then some a else none) (mm + 1) (g.2.2.2.1 0))) q (birdE s' w' (nI (B 6 k 2)) p' q' ar a2 a3))) h (Ax lo) σ H := hW
      have hq3 := xU_self (xU (xU X a (Ei Fa 2 g.2.1.1)) ar (Er (fun j => if j < mm then f j else if j = mm then some a else none) (mm + 1) (g.2.2.2.1 0))) q (birdE s' w' (nI (B 6 k 2)) p' q' ar a2 a3)
      have hne3 : xNe X0 (xU (xU (xU X a (Ei Fa 2 g.2.1.1)) ar (Er (fun j => if j < mm then f j else if j = mm then some a else none) (mm + 1) (g.2.2.2.1 0))) q (birdE s' w' (nI (B 6 k 2)) p' q' ar a2 a3)) q := fun a9 e9 h1 h2 => (xU_ne h1).trans (xLe.nw har _ _ (leA _ _ (hne a9 e9 h1 h2)))
      generalize xU (xU (xU X a (Ei Fa 2 g.2.1.1)) ar (Er (fun j => if j < mm then f j else if j = mm then some a else none) (mm + 1) (g.2.2.2.1 0))) q (birdE s' w' (nI (B 6 k 2)) p' q' ar a2 a3) = X3 at hW hP2 hq3 hne3
      have hz : B 7 k px / 2 ^ py % 2 = 0 := by
        rcases Nat.mod_two_eq_zero_or_one (B 7 k px / 2 ^ py) with z | z
        · exact z
        · obtain ⟨j, j1, j2⟩ := hP.2.2.1 px py hpy z
          exact absurd j2 (hv c0 j j1)
      have h8m := hP.2.2.2
      refine lv_aload_n hx hb dL_build_559 rfl (lv_at hl 0 rfl) ?_
      refine lv_iload hx hb dL_build_560 (lv_at hl 6 rfl) ?_
      refine lv_iload hx hb dL_build_562 (lv_at hl 12 rfl) ?_
      refine lv_iload hx hb dL_build_564 (lv_at hl 13 rfl) ?_
      refine cPin C0 hlo hK hW hS hC hF hk hpx hpy hz (by omega) hRf hRl (by omega) (by omega) hl.1 (Nat.le_of_ble_eq_true rfl) dL_build_566 (fun σ H locs hW hS hC hF => ?_)
      refine lv_aload hx hb dL_build_569 (lv_at hl 8 rfl) ?_
      refine xgf (ci := 5) (C := RX5) (T := TX5) (N := 12) C0 hK hW hq3 rfl inX5_B 9 (by decide) wFL_L_70 rfl rfl dL_build_571 ?_
      refine xln (v := nI (mm + 1)) C0 hK hW 6 hP2.1 rfl rfl dL_build_574 ?_
      refine lv_icmp_eq (tgt := 580) hx hb dL_build_575 (by decide) (fun _ => ?_) (fun c9 => absurd (congrArg nI (by omega)) c9)
      refine lv_iinc (v := nI (i + 1)) (lv' := [(10, .int (nI (i + 1))), (0, .ref (h.2.2 0 0)), (1, .ref (b)), (2, .int (nI (30000))), (3, .ref (sim)), (4, .int (nI (ns))), (5, .int (nI (nb))), (6, .int (nI (k))), (7, .int (xv)), (8, .ref (q)), (9, .int (nI (pn))), (11, .int (yv)), (12, .int (nI (px))), (13, .int (nI (py))), (14, .int (vz))]) hx hb dL_build_580 hl (k := 10) rfl (nI_1 _) (by decide) rfl (fun ls hl => ?_)
      refine lv_goto (tgt := 405) hx hb dL_build_583 (by decide) ?_
      refine ih (i + 1) σ X3 _ ar (mm + 1) _ _ _ _ _ _ _ H locs ls (by omega) (by omega) (by omega) (by omega) hP2 ?_ hC hF (fun k9 i9 f9 hn => ?_) hne3 hW hS (lv_sub hl [1, 2, 3, 4, 5, 6, 7, 8, 9, 10, 0] rfl) kk
      · rw [← e62]; exact hq3
      · rw [← hfr k9 i9 f9 hn, aU_eq, if_neg (by omega), aU_eq, if_neg (by omega)]
    · refine lv_goto (tgt := 580) hx hb dL_build_530 (by decide) ?_
      refine lv_iinc (v := nI (i + 1)) (lv' := [(10, .int (nI (i + 1))), (0, .ref (h.2.2 0 0)), (1, .ref (b)), (2, .int (nI (30000))), (3, .ref (sim)), (4, .int (nI (ns))), (5, .int (nI (nb))), (6, .int (nI (k))), (7, .int (xv)), (8, .ref (q)), (9, .int (nI (pn))), (11, .int (yv)), (12, .int (nI (px))), (13, .int (nI (py))), (14, .int (vz))]) hx hb dL_build_580 hl (k := 10) rfl (nI_1 _) (by decide) rfl (fun ls hl => ?_)
      refine lv_goto (tgt := 405) hx hb dL_build_583 (by decide) ?_
      exact ih (i + 1) σ X B a1 mm f A x y F cells slots H locs ls (by omega) (by omega) (by omega) (by omega) hP (by rw [← e62]; exact hq) hC hF hfr hne hW hS (lv_sub hl [1, 2, 3, 4, 5, 6, 7, 8, 9, 10, 0] rfl) kk
end LAWE
