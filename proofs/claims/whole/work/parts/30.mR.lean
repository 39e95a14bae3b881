set_option maxHeartbeats 4000000 in
set_option maxRecDepth 100000 in
theorem m_X7_thrown {l : Launch} {G : GP} {sz : Nat} {q0 : Nat} {σ σ0 : St} {r0 : Int32} (h : f_X7_thrown q0 σ = some (r0, σ0)) : Met l yX7_thrown [.code yX7_thrown cX7_thrown 1 (some .int)] ({ frames := 0, cells := 0, slots := 0, locals := 0 } : Room) (va_Pc [.ref (G.2.2.2 + q0)] (PreC G skR sz σ)) (QO (PoC G skR σ0) (Aw G.2.2.2 skR.1 sz) (some (.int r0))) 0 0 (Aw G.2.2.2 skR.1 sz) := by
  refine mkMet (by decide +kernel) (Nat.le_of_ble_eq_true rfl) skR_ok ?_
  intro p e s m below meth c ls E hW hl hr hlk
  have hl : lv_has ls 1 [(0, .ref (G.2.2.2 + q0))] := hl
  generalize Aw G.2.2.2 skR.1 s.heap.size = A0 at E hW ⊢
  generalize ([.ref (G.2.2.2 + q0)] : List Value).toArray = args
  unfold f_X7_thrown at h
  refine lv_aload_n E.1 E.2.1 dX7_thrown_0 rfl (lv_at hl 0 rfl) ?_
  obtain ⟨g1, h⟩ := gd_r h
  refine gf_X7_79 E hW g1 dX7_thrown_1 ?_
  exact e_i E hW hr hlk h dX7_thrown_4
set_option maxHeartbeats 4000000 in
set_option maxRecDepth 100000 in
theorem m_X7_fails {l : Launch} {G : GP} {sz : Nat} {q0 : Nat} {a1 : Int32} {a2 : Int32} {σ σ0 : St} {r0 : Int32} (h : f_X7_fails q0 a1 a2 σ = some (r0, σ0)) : Met l yX7_fails [.code yX7_fails cX7_fails 3 (some .boolean)] ({ frames := 0, cells := 0, slots := 0, locals := 0 } : Room) (va_Pc [.ref (G.2.2.2 + q0), .int a1, .int a2] (PreC G skR sz σ)) (QO (PoC G skR σ0) (Aw G.2.2.2 skR.1 sz) (some (.int r0))) 0 0 (Aw G.2.2.2 skR.1 sz) := by
  refine mkMet (by decide +kernel) (Nat.le_of_ble_eq_true rfl) skR_ok ?_
  intro p e s m below meth c ls E hW hl hr hlk
  have hl : lv_has ls 3 [(0, .ref (G.2.2.2 + q0)), (1, .int a1), (2, .int a2)] := hl
  generalize Aw G.2.2.2 skR.1 s.heap.size = A0 at E hW ⊢
  generalize ([.ref (G.2.2.2 + q0), .int a1, .int a2] : List Value).toArray = args
  unfold f_X7_fails at h
  refine lv_iload_n E.1 E.2.1 dX7_fails_0 rfl (lv_at hl 1 rfl) ?_
  obtain ⟨J3, eJ3, h⟩ := bnd_x h
  have hJ3 : ∀ (q2 : Nat) (σ1 : St) (H : Heap) (locs : List Loc) (ls : Array Slot), J3 q2 σ1 = some (r0, σ0) → Wo G skR A0 s σ1 H locs → lv_has ls 3 [(0, .ref (G.2.2.2 + q2))] → W p l e ({ frames := 0, cells := 0, slots := 0, locals := 0 } : Room) s m args below meth c H locs 0 0 (MQ below (QO (PoC G skR σ0) A0 (some (.int r0))) args s 0 0 A0) (F0 m 16 ls []) := by
    intro q2 σ1 H locs ls h hW hl
    have h := jr2 eJ3 h
    refine lv_aload_n E.1 E.2.1 dX7_fails_16 rfl (lv_at hl 0 rfl) ?_
    obtain ⟨g4, h⟩ := gd_r h
    refine gf_X7_79 E hW g4 dX7_fails_17 ?_
    refine lv_if_eq (tgt := 27) E.1 E.2.1 dX7_fails_20 (by decide) (fun g => ?_) (fun g => ?_)
    · have h := ifp h g
      refine lv_iconst (v := (0 : Int32)) E.1 E.2.1 dX7_fails_27 (by decide) ?_
      exact e_z E hW hr hlk (by decide) h dX7_fails_28
    · have h := ifn h g
      refine lv_iconst (v := (1 : Int32)) E.1 E.2.1 dX7_fails_23 (by decide) ?_
      refine lv_goto (tgt := 28) E.1 E.2.1 dX7_fails_24 (by decide) ?_
      exact e_z E hW hr hlk (by decide) h dX7_fails_28
  refine lv_if_eq (tgt := 16) E.1 E.2.1 dX7_fails_1 (by decide) (fun g => ?_) (fun g => ?_)
  · have h := ifp h g
    exact hJ3 _ _ _ _ _ h hW (lv_sub hl [0] rfl)
  · have h := ifn h g
    refine lv_aload_n E.1 E.2.1 dX7_fails_4 rfl (lv_at hl 0 rfl) ?_
    obtain ⟨g5, h⟩ := gd_r h
    refine gf_X7_79 E hW g5 dX7_fails_5 ?_
    refine lv_if_ne (tgt := 16) E.1 E.2.1 dX7_fails_8 (by decide) (fun g => ?_) (fun g => ?_)
    · have h := ifn h g
      exact hJ3 _ _ _ _ _ h hW (lv_sub hl [0] rfl)
    · have h := ifp h g
      refine lv_aload_n E.1 E.2.1 dX7_fails_11 rfl (lv_at hl 0 rfl) ?_
      refine lv_iload_n E.1 E.2.1 dX7_fails_12 rfl (lv_at hl 2 rfl) ?_
      refine pf_X7_79 E hW g5 dX7_fails_13 (fun σ6 H locs eσ6 hW => ?_)
      have h := bnd_r eσ6 h
      exact hJ3 _ _ _ _ _ h hW (lv_sub hl [0] rfl)
set_option maxHeartbeats 4000000 in
set_option maxRecDepth 100000 in
theorem m_X7_in {l : Launch} {G : GP} {sz : Nat} {a0 : Int32} {a1 : Int32} {a2 : Int32} {σ σ0 : St} {r0 : Int32} (h : f_X7_in a0 a1 a2 σ = some (r0, σ0)) : Met l yX7_in [.code yX7_in cX7_in 3 (some .boolean)] ({ frames := 0, cells := 0, slots := 0, locals := 0 } : Room) (va_Pc [.int a0, .int a1, .int a2] (PreC G skR sz σ)) (QO (PoC G skR σ0) (Aw G.2.2.2 skR.1 sz) (some (.int r0))) 0 0 (Aw G.2.2.2 skR.1 sz) := by
  refine mkMet (by decide +kernel) (Nat.le_of_ble_eq_true rfl) skR_ok ?_
  intro p e s m below meth c ls E hW hl hr hlk
  have hl : lv_has ls 3 [(0, .int a0), (1, .int a1), (2, .int a2)] := hl
  generalize Aw G.2.2.2 skR.1 s.heap.size = A0 at E hW ⊢
  generalize ([.int a0, .int a1, .int a2] : List Value).toArray = args
  unfold f_X7_in at h
  refine lv_iload_n E.1 E.2.1 dX7_in_0 rfl (lv_at hl 0 rfl) ?_
  refine lv_iload_n E.1 E.2.1 dX7_in_1 rfl (lv_at hl 1 rfl) ?_
  refine lv_icmp_lt (tgt := 14) E.1 E.2.1 dX7_in_2 (by decide) (fun g => ?_) (fun g => ?_)
  · have h := ifp h g
    refine lv_iconst (v := (0 : Int32)) E.1 E.2.1 dX7_in_14 (by decide) ?_
    exact e_z E hW hr hlk (by decide) h dX7_in_15
  · have h := ifn h g
    refine lv_iload_n E.1 E.2.1 dX7_in_5 rfl (lv_at hl 0 rfl) ?_
    refine lv_iload_n E.1 E.2.1 dX7_in_6 rfl (lv_at hl 2 rfl) ?_
    refine lv_icmp_gt (tgt := 14) E.1 E.2.1 dX7_in_7 (by decide) (fun g => ?_) (fun g => ?_)
    · have h := ifp h g
      refine lv_iconst (v := (0 : Int32)) E.1 E.2.1 dX7_in_14 (by decide) ?_
      exact e_z E hW hr hlk (by decide) h dX7_in_15
    · have h := ifn h g
      refine lv_iconst (v := (1 : Int32)) E.1 E.2.1 dX7_in_10 (by decide) ?_
      refine lv_goto (tgt := 15) E.1 E.2.1 dX7_in_11 (by decide) ?_
      exact e_z E hW hr hlk (by decide) h dX7_in_15
set_option maxHeartbeats 4000000 in
set_option maxRecDepth 100000 in
theorem m_X7_min {l : Launch} {G : GP} {sz : Nat} {a0 : Int32} {a1 : Int32} {σ σ0 : St} {r0 : Int32} (h : f_X7_min a0 a1 σ = some (r0, σ0)) : Met l yX7_min [.code yX7_min cX7_min 2 (some .int)] ({ frames := 0, cells := 0, slots := 0, locals := 0 } : Room) (va_Pc [.int a0, .int a1] (PreC G skR sz σ)) (QO (PoC G skR σ0) (Aw G.2.2.2 skR.1 sz) (some (.int r0))) 0 0 (Aw G.2.2.2 skR.1 sz) := by
  refine mkMet (by decide +kernel) (Nat.le_of_ble_eq_true rfl) skR_ok ?_
  intro p e s m below meth c ls E hW hl hr hlk
  have hl : lv_has ls 2 [(0, .int a0), (1, .int a1)] := hl
  generalize Aw G.2.2.2 skR.1 s.heap.size = A0 at E hW ⊢
  generalize ([.int a0, .int a1] : List Value).toArray = args
  unfold f_X7_min at h
  refine lv_iload_n E.1 E.2.1 dX7_min_0 rfl (lv_at hl 0 rfl) ?_
  refine lv_iload_n E.1 E.2.1 dX7_min_1 rfl (lv_at hl 1 rfl) ?_
  refine lv_icmp_ge (tgt := 9) E.1 E.2.1 dX7_min_2 (by decide) (fun g => ?_) (fun g => ?_)
  · have h := ifp h g
    refine lv_iload_n E.1 E.2.1 dX7_min_9 rfl (lv_at hl 1 rfl) ?_
    exact e_i E hW hr hlk h dX7_min_10
  · have h := ifn h g
    refine lv_iload_n E.1 E.2.1 dX7_min_5 rfl (lv_at hl 0 rfl) ?_
    refine lv_goto (tgt := 10) E.1 E.2.1 dX7_min_6 (by decide) ?_
    exact e_i E hW hr hlk h dX7_min_10
set_option maxHeartbeats 4000000 in
set_option maxRecDepth 100000 in
theorem L_X7_copy_2 {p : Program} {l : Launch} {e : Env} {s : State} {m : MethodId} {args : Array Value} {below : List Frame} {meth : Method} {c : Code} {G : GP} {A0 : Nat → Prop} {σ0 : St} {r0 : Unit} (E : En p m c s cX7_copy 3 yX7_copy.cls G A0) (hr : meth.sig.returnType = none) (hlk : meth.locks = false) : ∀ (n5 : Nat) (q2 : Nat) (q3 : Nat) (x4 : Int32) (σ1 : St) (H : Heap) (locs : List Loc) (ls : Array Slot), f_X7_copy_L2 n5 q2 q3 x4 σ1 = some (r0, σ0) → Wo G skR A0 s σ1 H locs → lv_has ls 3 [(0, .ref (G.2.2.2 + q2)), (1, .ref (G.2.2.2 + q3)), (2, .int x4)] → W p l e ({ frames := 0, cells := 0, slots := 0, locals := 0 } : Room) s m args below meth c H locs 0 0 (MQ below (QO (PoC G skR σ0) A0 none) args s 0 0 A0) (F0 m 2 ls []) := by
  intro n5
  induction n5 with
  | zero =>
    intro q2 q3 x4 σ1 H locs ls h hW hl
    rw [f_X7_copy_L2] at h
    cases h
  | succ n5 ih =>
    intro q2 q3 x4 σ1 H locs ls h hW hl
    rw [f_X7_copy_L2] at h
    refine lv_iload_n E.1 E.2.1 dX7_copy_2 rfl (lv_at hl 2 rfl) ?_
    refine lv_bipush (v := (97 : Int32)) E.1 E.2.1 dX7_copy_3 (by decide) ?_
    refine lv_icmp_ge (tgt := 20) E.1 E.2.1 dX7_copy_5 (by decide) (fun g => ?_) (fun g => ?_)
    · have h := ifp h g
      exact e_v E hW hr hlk h dX7_copy_20
    · have h := ifn h g
      refine lv_aload_n E.1 E.2.1 dX7_copy_8 rfl (lv_at hl 1 rfl) ?_
      refine lv_iload_n E.1 E.2.1 dX7_copy_9 rfl (lv_at hl 2 rfl) ?_
      refine lv_aload_n E.1 E.2.1 dX7_copy_10 rfl (lv_at hl 0 rfl) ?_
      refine lv_iload_n E.1 E.2.1 dX7_copy_11 rfl (lv_at hl 2 rfl) ?_
      obtain ⟨g6, h⟩ := gd_r h
      refine r_iald E hW (pr_eq g6.1) g6.2 dX7_copy_12 ?_
      obtain ⟨g7, h⟩ := gd_r h
      refine r_iast E hW (pr_eq g7.1) g7.2 dX7_copy_13 (fun σ8 H locs eσ8 hW => ?_)
      have h := bnd_r eσ8 h
      obtain ⟨x9, ex9⟩ : ∃ y : Int32, y = x4 + (1 : Int32) := ⟨_, rfl⟩
      have h := bnd_r ex9 h
      refine lv_iinc (v := x9) (lv' := [(2, .int x9), (0, .ref (G.2.2.2 + q2)), (1, .ref (G.2.2.2 + q3))]) E.1 E.2.1 dX7_copy_14 hl (k := 2) rfl (by rw [ex9]; rfl) (by decide) rfl (fun ls hl => ?_)
      refine lv_goto (tgt := 2) E.1 E.2.1 dX7_copy_17 (by decide) ?_
      exact ih _ _ _ _ _ _ _ h hW (lv_sub hl [1, 2, 0] rfl)
set_option maxHeartbeats 4000000 in
set_option maxRecDepth 100000 in
theorem m_X7_copy {l : Launch} {G : GP} {sz : Nat} {q0 : Nat} {q1 : Nat} {σ σ0 : St} {r0 : Unit} (h : f_X7_copy q0 q1 σ = some (r0, σ0)) : Met l yX7_copy [.code yX7_copy cX7_copy 3 none] ({ frames := 0, cells := 0, slots := 0, locals := 0 } : Room) (va_Pc [.ref (G.2.2.2 + q0), .ref (G.2.2.2 + q1)] (PreC G skR sz σ)) (QO (PoC G skR σ0) (Aw G.2.2.2 skR.1 sz) none) 0 0 (Aw G.2.2.2 skR.1 sz) := by
  refine mkMet (by decide +kernel) (Nat.le_of_ble_eq_true rfl) skR_ok ?_
  intro p e s m below meth c ls E hW hl hr hlk
  have hl : lv_has ls 3 [(0, .ref (G.2.2.2 + q0)), (1, .ref (G.2.2.2 + q1))] := hl
  generalize Aw G.2.2.2 skR.1 s.heap.size = A0 at E hW ⊢
  generalize ([.ref (G.2.2.2 + q0), .ref (G.2.2.2 + q1)] : List Value).toArray = args
  unfold f_X7_copy at h
  refine lv_iconst (v := (0 : Int32)) E.1 E.2.1 dX7_copy_0 (by decide) ?_
  refine lv_istore_n (lv' := [(2, .int (0 : Int32)), (0, .ref (G.2.2.2 + q0)), (1, .ref (G.2.2.2 + q1))]) E.1 E.2.1 dX7_copy_1 rfl hl (by decide) rfl (fun ls hl => ?_)
  refine L_X7_copy_2 E hr hlk _ _ _ _ _ _ _ _ h hW (lv_sub hl [1, 2, 0] rfl)
set_option maxHeartbeats 4000000 in
set_option maxRecDepth 100000 in
theorem L_X7_clearRow_2 {p : Program} {l : Launch} {e : Env} {s : State} {m : MethodId} {args : Array Value} {below : List Frame} {meth : Method} {c : Code} {G : GP} {A0 : Nat → Prop} {σ0 : St} {r0 : Unit} (E : En p m c s cX7_clearRow 2 yX7_clearRow.cls G A0) (hr : meth.sig.returnType = none) (hlk : meth.locks = false) : ∀ (n4 : Nat) (q2 : Nat) (x3 : Int32) (σ1 : St) (H : Heap) (locs : List Loc) (ls : Array Slot), f_X7_clearRow_L2 n4 q2 x3 σ1 = some (r0, σ0) → Wo G skR A0 s σ1 H locs → lv_has ls 2 [(0, .ref (G.2.2.2 + q2)), (1, .int x3)] → W p l e ({ frames := 0, cells := 0, slots := 0, locals := 0 } : Room) s m args below meth c H locs 0 0 (MQ below (QO (PoC G skR σ0) A0 none) args s 0 0 A0) (F0 m 2 ls []) := by
  intro n4
  induction n4 with
  | zero =>
    intro q2 x3 σ1 H locs ls h hW hl
    rw [f_X7_clearRow_L2] at h
    cases h
  | succ n4 ih =>
    intro q2 x3 σ1 H locs ls h hW hl
    rw [f_X7_clearRow_L2] at h
    refine lv_iload_n E.1 E.2.1 dX7_clearRow_2 rfl (lv_at hl 1 rfl) ?_
    refine lv_bipush (v := (12 : Int32)) E.1 E.2.1 dX7_clearRow_3 (by decide) ?_
    refine lv_icmp_ge (tgt := 18) E.1 E.2.1 dX7_clearRow_5 (by decide) (fun g => ?_) (fun g => ?_)
    · have h := ifp h g
      exact e_v E hW hr hlk h dX7_clearRow_18
    · have h := ifn h g
      refine lv_aload_n E.1 E.2.1 dX7_clearRow_8 rfl (lv_at hl 0 rfl) ?_
      refine lv_iload_n E.1 E.2.1 dX7_clearRow_9 rfl (lv_at hl 1 rfl) ?_
      refine lv_lconst (v := (0 : Int64)) E.1 E.2.1 dX7_clearRow_10 (by decide) ?_
      obtain ⟨g5, h⟩ := gd_r h
      refine r_last E hW (pr_eq g5.1) g5.2 dX7_clearRow_11 (fun σ6 H locs eσ6 hW => ?_)
      have h := bnd_r eσ6 h
      obtain ⟨x7, ex7⟩ : ∃ y : Int32, y = x3 + (1 : Int32) := ⟨_, rfl⟩
      have h := bnd_r ex7 h
      refine lv_iinc (v := x7) (lv' := [(1, .int x7), (0, .ref (G.2.2.2 + q2))]) E.1 E.2.1 dX7_clearRow_12 hl (k := 1) rfl (by rw [ex7]; rfl) (by decide) rfl (fun ls hl => ?_)
      refine lv_goto (tgt := 2) E.1 E.2.1 dX7_clearRow_15 (by decide) ?_
      exact ih _ _ _ _ _ _ h hW (lv_sub hl [1, 0] rfl)
set_option maxHeartbeats 4000000 in
set_option maxRecDepth 100000 in
theorem m_X7_clearRow {l : Launch} {G : GP} {sz : Nat} {q0 : Nat} {σ σ0 : St} {r0 : Unit} (h : f_X7_clearRow q0 σ = some (r0, σ0)) : Met l yX7_clearRow [.code yX7_clearRow cX7_clearRow 2 none] ({ frames := 0, cells := 0, slots := 0, locals := 0 } : Room) (va_Pc [.ref (G.2.2.2 + q0)] (PreC G skR sz σ)) (QO (PoC G skR σ0) (Aw G.2.2.2 skR.1 sz) none) 0 0 (Aw G.2.2.2 skR.1 sz) := by
  refine mkMet (by decide +kernel) (Nat.le_of_ble_eq_true rfl) skR_ok ?_
  intro p e s m below meth c ls E hW hl hr hlk
  have hl : lv_has ls 2 [(0, .ref (G.2.2.2 + q0))] := hl
  generalize Aw G.2.2.2 skR.1 s.heap.size = A0 at E hW ⊢
  generalize ([.ref (G.2.2.2 + q0)] : List Value).toArray = args
  unfold f_X7_clearRow at h
  refine lv_iconst (v := (0 : Int32)) E.1 E.2.1 dX7_clearRow_0 (by decide) ?_
  refine lv_istore_n (lv' := [(1, .int (0 : Int32)), (0, .ref (G.2.2.2 + q0))]) E.1 E.2.1 dX7_clearRow_1 rfl hl (by decide) rfl (fun ls hl => ?_)
  refine L_X7_clearRow_2 E hr hlk _ _ _ _ _ _ _ h hW (lv_sub hl [1, 0] rfl)
set_option maxHeartbeats 4000000 in
set_option maxRecDepth 100000 in
theorem L_X7_copyRow_2 {p : Program} {l : Launch} {e : Env} {s : State} {m : MethodId} {args : Array Value} {below : List Frame} {meth : Method} {c : Code} {G : GP} {A0 : Nat → Prop} {σ0 : St} {r0 : Unit} (E : En p m c s cX7_copyRow 3 yX7_copyRow.cls G A0) (hr : meth.sig.returnType = none) (hlk : meth.locks = false) : ∀ (n5 : Nat) (q2 : Nat) (q3 : Nat) (x4 : Int32) (σ1 : St) (H : Heap) (locs : List Loc) (ls : Array Slot), f_X7_copyRow_L2 n5 q2 q3 x4 σ1 = some (r0, σ0) → Wo G skR A0 s σ1 H locs → lv_has ls 3 [(0, .ref (G.2.2.2 + q2)), (1, .ref (G.2.2.2 + q3)), (2, .int x4)] → W p l e ({ frames := 0, cells := 0, slots := 0, locals := 0 } : Room) s m args below meth c H locs 0 0 (MQ below (QO (PoC G skR σ0) A0 none) args s 0 0 A0) (F0 m 2 ls []) := by
  intro n5
  induction n5 with
  | zero =>
    intro q2 q3 x4 σ1 H locs ls h hW hl
    rw [f_X7_copyRow_L2] at h
    cases h
  | succ n5 ih =>
    intro q2 q3 x4 σ1 H locs ls h hW hl
    rw [f_X7_copyRow_L2] at h
    refine lv_iload_n E.1 E.2.1 dX7_copyRow_2 rfl (lv_at hl 2 rfl) ?_
    refine lv_bipush (v := (12 : Int32)) E.1 E.2.1 dX7_copyRow_3 (by decide) ?_
    refine lv_icmp_ge (tgt := 20) E.1 E.2.1 dX7_copyRow_5 (by decide) (fun g => ?_) (fun g => ?_)
    · have h := ifp h g
      exact e_v E hW hr hlk h dX7_copyRow_20
    · have h := ifn h g
      refine lv_aload_n E.1 E.2.1 dX7_copyRow_8 rfl (lv_at hl 1 rfl) ?_
      refine lv_iload_n E.1 E.2.1 dX7_copyRow_9 rfl (lv_at hl 2 rfl) ?_
      refine lv_aload_n E.1 E.2.1 dX7_copyRow_10 rfl (lv_at hl 0 rfl) ?_
      refine lv_iload_n E.1 E.2.1 dX7_copyRow_11 rfl (lv_at hl 2 rfl) ?_
      obtain ⟨g6, h⟩ := gd_r h
      refine r_lald E hW (pr_eq g6.1) g6.2 dX7_copyRow_12 ?_
      obtain ⟨g7, h⟩ := gd_r h
      refine r_last E hW (pr_eq g7.1) g7.2 dX7_copyRow_13 (fun σ8 H locs eσ8 hW => ?_)
      have h := bnd_r eσ8 h
      obtain ⟨x9, ex9⟩ : ∃ y : Int32, y = x4 + (1 : Int32) := ⟨_, rfl⟩
      have h := bnd_r ex9 h
      refine lv_iinc (v := x9) (lv' := [(2, .int x9), (0, .ref (G.2.2.2 + q2)), (1, .ref (G.2.2.2 + q3))]) E.1 E.2.1 dX7_copyRow_14 hl (k := 2) rfl (by rw [ex9]; rfl) (by decide) rfl (fun ls hl => ?_)
      refine lv_goto (tgt := 2) E.1 E.2.1 dX7_copyRow_17 (by decide) ?_
      exact ih _ _ _ _ _ _ _ h hW (lv_sub hl [1, 2, 0] rfl)
set_option maxHeartbeats 4000000 in
set_option maxRecDepth 100000 in
theorem m_X7_copyRow {l : Launch} {G : GP} {sz : Nat} {q0 : Nat} {q1 : Nat} {σ σ0 : St} {r0 : Unit} (h : f_X7_copyRow q0 q1 σ = some (r0, σ0)) : Met l yX7_copyRow [.code yX7_copyRow cX7_copyRow 3 none] ({ frames := 0, cells := 0, slots := 0, locals := 0 } : Room) (va_Pc [.ref (G.2.2.2 + q0), .ref (G.2.2.2 + q1)] (PreC G skR sz σ)) (QO (PoC G skR σ0) (Aw G.2.2.2 skR.1 sz) none) 0 0 (Aw G.2.2.2 skR.1 sz) := by
  refine mkMet (by decide +kernel) (Nat.le_of_ble_eq_true rfl) skR_ok ?_
  intro p e s m below meth c ls E hW hl hr hlk
  have hl : lv_has ls 3 [(0, .ref (G.2.2.2 + q0)), (1, .ref (G.2.2.2 + q1))] := hl
  generalize Aw G.2.2.2 skR.1 s.heap.size = A0 at E hW ⊢
  generalize ([.ref (G.2.2.2 + q0), .ref (G.2.2.2 + q1)] : List Value).toArray = args
  unfold f_X7_copyRow at h
  refine lv_iconst (v := (0 : Int32)) E.1 E.2.1 dX7_copyRow_0 (by decide) ?_
  refine lv_istore_n (lv' := [(2, .int (0 : Int32)), (0, .ref (G.2.2.2 + q0)), (1, .ref (G.2.2.2 + q1))]) E.1 E.2.1 dX7_copyRow_1 rfl hl (by decide) rfl (fun ls hl => ?_)
  refine L_X7_copyRow_2 E hr hlk _ _ _ _ _ _ _ _ h hW (lv_sub hl [1, 2, 0] rfl)
set_option maxHeartbeats 4000000 in
set_option maxRecDepth 100000 in
theorem m_X7_isDefined {l : Launch} {G : GP} {sz : Nat} {q0 : Nat} {a1 : Int32} {σ σ0 : St} {r0 : Int32} (h : f_X7_isDefined q0 a1 σ = some (r0, σ0)) : Met l yX7_isDefined [.code yX7_isDefined cX7_isDefined 2 (some .boolean)] ({ frames := 0, cells := 0, slots := 0, locals := 0 } : Room) (va_Pc [.ref (G.2.2.2 + q0), .int a1] (PreC G skR sz σ)) (QO (PoC G skR σ0) (Aw G.2.2.2 skR.1 sz) (some (.int r0))) 0 0 (Aw G.2.2.2 skR.1 sz) := by
  refine mkMet (by decide +kernel) (Nat.le_of_ble_eq_true rfl) skR_ok ?_
  intro p e s m below meth c ls E hW hl hr hlk
  have hl : lv_has ls 2 [(0, .ref (G.2.2.2 + q0)), (1, .int a1)] := hl
  generalize Aw G.2.2.2 skR.1 s.heap.size = A0 at E hW ⊢
  generalize ([.ref (G.2.2.2 + q0), .int a1] : List Value).toArray = args
  unfold f_X7_isDefined at h
  refine lv_aload_n E.1 E.2.1 dX7_isDefined_0 rfl (lv_at hl 0 rfl) ?_
  refine lv_iconst (v := (0 : Int32)) E.1 E.2.1 dX7_isDefined_1 (by decide) ?_
  obtain ⟨g1, h⟩ := gd_r h
  refine r_iald E hW (pr_eq g1.1) g1.2 dX7_isDefined_2 ?_
  refine lv_iload_n E.1 E.2.1 dX7_isDefined_3 rfl (lv_at hl 1 rfl) ?_
  refine lv_ishr E.1 E.2.1 dX7_isDefined_4 ?_
  refine lv_iconst (v := (1 : Int32)) E.1 E.2.1 dX7_isDefined_5 (by decide) ?_
  refine lv_iand E.1 E.2.1 dX7_isDefined_6 ?_
  refine lv_iconst (v := (1 : Int32)) E.1 E.2.1 dX7_isDefined_7 (by decide) ?_
  refine lv_icmp_ne (tgt := 15) E.1 E.2.1 dX7_isDefined_8 (by decide) (fun g => ?_) (fun g => ?_)
  · have h := ifn h g
    refine lv_iconst (v := (0 : Int32)) E.1 E.2.1 dX7_isDefined_15 (by decide) ?_
    exact e_z E hW hr hlk (by decide) h dX7_isDefined_16
  · have h := ifp h g
    refine lv_iconst (v := (1 : Int32)) E.1 E.2.1 dX7_isDefined_11 (by decide) ?_
    refine lv_goto (tgt := 16) E.1 E.2.1 dX7_isDefined_12 (by decide) ?_
    exact e_z E hW hr hlk (by decide) h dX7_isDefined_16
set_option maxHeartbeats 4000000 in
set_option maxRecDepth 100000 in
theorem L_X7_take_2 {p : Program} {l : Launch} {e : Env} {s : State} {m : MethodId} {args : Array Value} {below : List Frame} {meth : Method} {c : Code} {G : GP} {A0 : Nat → Prop} {σ0 : St} {r0 : Unit} (E : En p m c s cX7_take 4 yX7_take.cls G A0) (hr : meth.sig.returnType = none) (hlk : meth.locks = false) : ∀ (n6 : Nat) (q2 : Nat) (x3 : Int32) (q4 : Nat) (x5 : Int32) (σ1 : St) (H : Heap) (locs : List Loc) (ls : Array Slot), f_X7_take_L2 n6 q2 x3 q4 x5 σ1 = some (r0, σ0) → Wo G skR A0 s σ1 H locs → lv_has ls 4 [(0, .ref (G.2.2.2 + q2)), (1, .int x3), (2, .ref (G.2.2.2 + q4)), (3, .int x5)] → W p l e ({ frames := 0, cells := 0, slots := 0, locals := 0 } : Room) s m args below meth c H locs 0 0 (MQ below (QO (PoC G skR σ0) A0 none) args s 0 0 A0) (F0 m 2 ls []) := by
  intro n6
  induction n6 with
  | zero =>
    intro q2 x3 q4 x5 σ1 H locs ls h hW hl
    rw [f_X7_take_L2] at h
    cases h
  | succ n6 ih =>
    intro q2 x3 q4 x5 σ1 H locs ls h hW hl
    rw [f_X7_take_L2] at h
    refine lv_iload_n E.1 E.2.1 dX7_take_2 rfl (lv_at hl 3 rfl) ?_
    refine lv_bipush (v := (12 : Int32)) E.1 E.2.1 dX7_take_3 (by decide) ?_
    refine lv_icmp_ge (tgt := 28) E.1 E.2.1 dX7_take_5 (by decide) (fun g => ?_) (fun g => ?_)
    · have h := ifp h g
      exact e_v E hW hr hlk h dX7_take_28
    · have h := ifn h g
      refine lv_aload_n E.1 E.2.1 dX7_take_8 rfl (lv_at hl 2 rfl) ?_
      refine lv_iload_n E.1 E.2.1 dX7_take_9 rfl (lv_at hl 3 rfl) ?_
      refine lv_aload_n E.1 E.2.1 dX7_take_10 rfl (lv_at hl 0 rfl) ?_
      refine lv_iconst (v := (1 : Int32)) E.1 E.2.1 dX7_take_11 (by decide) ?_
      refine lv_bipush (v := (12 : Int32)) E.1 E.2.1 dX7_take_12 (by decide) ?_
      refine lv_iload_n E.1 E.2.1 dX7_take_14 rfl (lv_at hl 1 rfl) ?_
      refine lv_imul E.1 E.2.1 dX7_take_15 ?_
      refine lv_iadd E.1 E.2.1 dX7_take_16 ?_
      refine lv_iload_n E.1 E.2.1 dX7_take_17 rfl (lv_at hl 3 rfl) ?_
      refine lv_iadd E.1 E.2.1 dX7_take_18 ?_
      obtain ⟨g7, h⟩ := gd_r h
      refine r_iald E hW (pr_eq g7.1) g7.2 dX7_take_19 ?_
      refine lv_i2l E.1 E.2.1 dX7_take_20 rfl ?_
      obtain ⟨g8, h⟩ := gd_r h
      refine r_last E hW (pr_eq g8.1) g8.2 dX7_take_21 (fun σ9 H locs eσ9 hW => ?_)
      have h := bnd_r eσ9 h
      obtain ⟨x10, ex10⟩ : ∃ y : Int32, y = x5 + (1 : Int32) := ⟨_, rfl⟩
      have h := bnd_r ex10 h
      refine lv_iinc (v := x10) (lv' := [(3, .int x10), (0, .ref (G.2.2.2 + q2)), (1, .int x3), (2, .ref (G.2.2.2 + q4))]) E.1 E.2.1 dX7_take_22 hl (k := 3) rfl (by rw [ex10]; rfl) (by decide) rfl (fun ls hl => ?_)
      refine lv_goto (tgt := 2) E.1 E.2.1 dX7_take_25 (by decide) ?_
      exact ih _ _ _ _ _ _ _ _ h hW (lv_sub hl [1, 2, 3, 0] rfl)
set_option maxHeartbeats 4000000 in
set_option maxRecDepth 100000 in
theorem m_X7_take {l : Launch} {G : GP} {sz : Nat} {q0 : Nat} {a1 : Int32} {q2 : Nat} {σ σ0 : St} {r0 : Unit} (h : f_X7_take q0 a1 q2 σ = some (r0, σ0)) : Met l yX7_take [.code yX7_take cX7_take 4 none] ({ frames := 0, cells := 0, slots := 0, locals := 0 } : Room) (va_Pc [.ref (G.2.2.2 + q0), .int a1, .ref (G.2.2.2 + q2)] (PreC G skR sz σ)) (QO (PoC G skR σ0) (Aw G.2.2.2 skR.1 sz) none) 0 0 (Aw G.2.2.2 skR.1 sz) := by
  refine mkMet (by decide +kernel) (Nat.le_of_ble_eq_true rfl) skR_ok ?_
  intro p e s m below meth c ls E hW hl hr hlk
  have hl : lv_has ls 4 [(0, .ref (G.2.2.2 + q0)), (1, .int a1), (2, .ref (G.2.2.2 + q2))] := hl
  generalize Aw G.2.2.2 skR.1 s.heap.size = A0 at E hW ⊢
  generalize ([.ref (G.2.2.2 + q0), .int a1, .ref (G.2.2.2 + q2)] : List Value).toArray = args
  unfold f_X7_take at h
  refine lv_iconst (v := (0 : Int32)) E.1 E.2.1 dX7_take_0 (by decide) ?_
  refine lv_istore_n (lv' := [(3, .int (0 : Int32)), (0, .ref (G.2.2.2 + q0)), (1, .int a1), (2, .ref (G.2.2.2 + q2))]) E.1 E.2.1 dX7_take_1 rfl hl (by decide) rfl (fun ls hl => ?_)
  refine L_X7_take_2 E hr hlk _ _ _ _ _ _ _ _ _ h hW (lv_sub hl [1, 2, 3, 0] rfl)
set_option maxHeartbeats 4000000 in
set_option maxRecDepth 100000 in
theorem L_X7_give_2 {p : Program} {l : Launch} {e : Env} {s : State} {m : MethodId} {args : Array Value} {below : List Frame} {meth : Method} {c : Code} {G : GP} {A0 : Nat → Prop} {σ0 : St} {r0 : Unit} {K28 : Nat → Int32 → St → Option (Unit × St)} (E : En p m c s cX7_give 4 yX7_give.cls G A0) (hr : meth.sig.returnType = none) (hlk : meth.locks = false) (hK28 : ∀ (q7 : Nat) (x8 : Int32) (σ6 : St) (H : Heap) (locs : List Loc) (ls : Array Slot), K28 q7 x8 σ6 = some (r0, σ0) → Wo G skR A0 s σ6 H locs → lv_has ls 4 [(1, .ref (G.2.2.2 + q7)), (2, .int x8)] → W p l e ({ frames := 0, cells := 0, slots := 0, locals := 0 } : Room) s m args below meth c H locs 0 0 (MQ below (QO (PoC G skR σ0) A0 none) args s 0 0 A0) (F0 m 28 ls [])) : ∀ (n9 : Nat) (q2 : Nat) (q3 : Nat) (x4 : Int32) (x5 : Int32) (σ1 : St) (H : Heap) (locs : List Loc) (ls : Array Slot), f_X7_give_L2 K28 n9 q2 q3 x4 x5 σ1 = some (r0, σ0) → Wo G skR A0 s σ1 H locs → lv_has ls 4 [(0, .ref (G.2.2.2 + q2)), (1, .ref (G.2.2.2 + q3)), (2, .int x4), (3, .int x5)] → W p l e ({ frames := 0, cells := 0, slots := 0, locals := 0 } : Room) s m args below meth c H locs 0 0 (MQ below (QO (PoC G skR σ0) A0 none) args s 0 0 A0) (F0 m 2 ls []) := by
  intro n9
  induction n9 with
  | zero =>
    intro q2 q3 x4 x5 σ1 H locs ls h hW hl
    rw [f_X7_give_L2] at h
    cases h
  | succ n9 ih =>
    intro q2 q3 x4 x5 σ1 H locs ls h hW hl
    rw [f_X7_give_L2] at h
    refine lv_iload_n E.1 E.2.1 dX7_give_2 rfl (lv_at hl 3 rfl) ?_
    refine lv_bipush (v := (12 : Int32)) E.1 E.2.1 dX7_give_3 (by decide) ?_
    refine lv_icmp_ge (tgt := 28) E.1 E.2.1 dX7_give_5 (by decide) (fun g => ?_) (fun g => ?_)
    · have h := ifp h g
      exact hK28 _ _ _ _ _ _ h hW (lv_sub hl [1, 2] rfl)
    · have h := ifn h g
      refine lv_aload_n E.1 E.2.1 dX7_give_8 rfl (lv_at hl 1 rfl) ?_
      refine lv_iconst (v := (1 : Int32)) E.1 E.2.1 dX7_give_9 (by decide) ?_
      refine lv_bipush (v := (12 : Int32)) E.1 E.2.1 dX7_give_10 (by decide) ?_
      refine lv_iload_n E.1 E.2.1 dX7_give_12 rfl (lv_at hl 2 rfl) ?_
      refine lv_imul E.1 E.2.1 dX7_give_13 ?_
      refine lv_iadd E.1 E.2.1 dX7_give_14 ?_
      refine lv_iload_n E.1 E.2.1 dX7_give_15 rfl (lv_at hl 3 rfl) ?_
      refine lv_iadd E.1 E.2.1 dX7_give_16 ?_
      refine lv_aload_n E.1 E.2.1 dX7_give_17 rfl (lv_at hl 0 rfl) ?_
      refine lv_iload_n E.1 E.2.1 dX7_give_18 rfl (lv_at hl 3 rfl) ?_
      obtain ⟨g10, h⟩ := gd_r h
      refine r_lald E hW (pr_eq g10.1) g10.2 dX7_give_19 ?_
      refine lv_l2i E.1 E.2.1 dX7_give_20 rfl ?_
      obtain ⟨g11, h⟩ := gd_r h
      refine r_iast E hW (pr_eq g11.1) g11.2 dX7_give_21 (fun σ12 H locs eσ12 hW => ?_)
      have h := bnd_r eσ12 h
      obtain ⟨x13, ex13⟩ : ∃ y : Int32, y = x5 + (1 : Int32) := ⟨_, rfl⟩
      have h := bnd_r ex13 h
      refine lv_iinc (v := x13) (lv' := [(3, .int x13), (0, .ref (G.2.2.2 + q2)), (1, .ref (G.2.2.2 + q3)), (2, .int x4)]) E.1 E.2.1 dX7_give_22 hl (k := 3) rfl (by rw [ex13]; rfl) (by decide) rfl (fun ls hl => ?_)
      refine lv_goto (tgt := 2) E.1 E.2.1 dX7_give_25 (by decide) ?_
      exact ih _ _ _ _ _ _ _ _ h hW (lv_sub hl [1, 2, 3, 0] rfl)
set_option maxHeartbeats 4000000 in
set_option maxRecDepth 100000 in
theorem m_X7_give {l : Launch} {G : GP} {sz : Nat} {q0 : Nat} {q1 : Nat} {a2 : Int32} {σ σ0 : St} {r0 : Unit} (h : f_X7_give q0 q1 a2 σ = some (r0, σ0)) : Met l yX7_give [.code yX7_give cX7_give 4 none] ({ frames := 0, cells := 0, slots := 0, locals := 0 } : Room) (va_Pc [.ref (G.2.2.2 + q0), .ref (G.2.2.2 + q1), .int a2] (PreC G skR sz σ)) (QO (PoC G skR σ0) (Aw G.2.2.2 skR.1 sz) none) 0 0 (Aw G.2.2.2 skR.1 sz) := by
  refine mkMet (by decide +kernel) (Nat.le_of_ble_eq_true rfl) skR_ok ?_
  intro p e s m below meth c ls E hW hl hr hlk
  have hl : lv_has ls 4 [(0, .ref (G.2.2.2 + q0)), (1, .ref (G.2.2.2 + q1)), (2, .int a2)] := hl
  generalize Aw G.2.2.2 skR.1 s.heap.size = A0 at E hW ⊢
  generalize ([.ref (G.2.2.2 + q0), .ref (G.2.2.2 + q1), .int a2] : List Value).toArray = args
  unfold f_X7_give at h
  refine lv_iconst (v := (0 : Int32)) E.1 E.2.1 dX7_give_0 (by decide) ?_
  refine lv_istore_n (lv' := [(3, .int (0 : Int32)), (0, .ref (G.2.2.2 + q0)), (1, .ref (G.2.2.2 + q1)), (2, .int a2)]) E.1 E.2.1 dX7_give_1 rfl hl (by decide) rfl (fun ls hl => ?_)
  refine L_X7_give_2 E hr hlk ?_ _ _ _ _ _ _ _ _ _ h hW (lv_sub hl [1, 2, 3, 0] rfl)
  · intro q7 x8 σ6 H locs ls h hW hl
    refine lv_aload_n E.1 E.2.1 dX7_give_28 rfl (lv_at hl 0 rfl) ?_
    refine lv_iconst (v := (0 : Int32)) E.1 E.2.1 dX7_give_29 (by decide) ?_
    refine lv_dup2_11 E.1 E.2.1 dX7_give_30 rfl rfl ?_
    obtain ⟨g14, h⟩ := gd_r h
    refine r_iald E hW (pr_eq g14.1) g14.2 dX7_give_31 ?_
    refine lv_iconst (v := (1 : Int32)) E.1 E.2.1 dX7_give_32 (by decide) ?_
    refine lv_iload_n E.1 E.2.1 dX7_give_33 rfl (lv_at hl 1 rfl) ?_
    refine lv_ishl E.1 E.2.1 dX7_give_34 ?_
    refine lv_ior E.1 E.2.1 dX7_give_35 ?_
    refine r_iast E hW (pr_eq g14.1) g14.2 dX7_give_36 (fun σ15 H locs eσ15 hW => ?_)
    have h := bnd_r eσ15 h
    exact e_v E hW hr hlk h dX7_give_37
set_option maxHeartbeats 4000000 in
set_option maxRecDepth 100000 in
theorem m_X7_place {l : Launch} {G : GP} {sz : Nat} {a0 : Int32} {a1 : Int32} {σ σ0 : St} {r0 : Int32} (h : f_X7_place a0 a1 σ = some (r0, σ0)) : Met l yX7_place [.code yX7_place cX7_place 2 (some .int)] ({ frames := 0, cells := 0, slots := 0, locals := 0 } : Room) (va_Pc [.int a0, .int a1] (PreC G skR sz σ)) (QO (PoC G skR σ0) (Aw G.2.2.2 skR.1 sz) (some (.int r0))) 0 0 (Aw G.2.2.2 skR.1 sz) := by
  refine mkMet (by decide +kernel) (Nat.le_of_ble_eq_true rfl) skR_ok ?_
  intro p e s m below meth c ls E hW hl hr hlk
  have hl : lv_has ls 2 [(0, .int a0), (1, .int a1)] := hl
  generalize Aw G.2.2.2 skR.1 s.heap.size = A0 at E hW ⊢
  generalize ([.int a0, .int a1] : List Value).toArray = args
  unfold f_X7_place at h
  refine lv_iload_n E.1 E.2.1 dX7_place_0 rfl (lv_at hl 0 rfl) ?_
  refine lv_if_ne (tgt := 8) E.1 E.2.1 dX7_place_1 (by decide) (fun g => ?_) (fun g => ?_)
  · have h := ifn h g
    refine lv_iload_n E.1 E.2.1 dX7_place_8 rfl (lv_at hl 0 rfl) ?_
    refine lv_iconst (v := (1 : Int32)) E.1 E.2.1 dX7_place_9 (by decide) ?_
    refine lv_icmp_ne (tgt := 19) E.1 E.2.1 dX7_place_10 (by decide) (fun g => ?_) (fun g => ?_)
    · have h := ifn h g
      refine lv_iload_n E.1 E.2.1 dX7_place_19 rfl (lv_at hl 0 rfl) ?_
      refine lv_iconst (v := (2 : Int32)) E.1 E.2.1 dX7_place_20 (by decide) ?_
      refine lv_icmp_ne (tgt := 31) E.1 E.2.1 dX7_place_21 (by decide) (fun g => ?_) (fun g => ?_)
      · have h := ifn h g
        refine lv_bipush (v := (9 : Int32)) E.1 E.2.1 dX7_place_31 (by decide) ?_
        exact e_i E hW hr hlk h dX7_place_33
      · have h := ifp h g
        refine lv_bipush (v := (7 : Int32)) E.1 E.2.1 dX7_place_24 (by decide) ?_
        refine lv_iload_n E.1 E.2.1 dX7_place_26 rfl (lv_at hl 1 rfl) ?_
        refine lv_iadd E.1 E.2.1 dX7_place_27 ?_
        refine lv_goto (tgt := 33) E.1 E.2.1 dX7_place_28 (by decide) ?_
        exact e_i E hW hr hlk h dX7_place_33
    · have h := ifp h g
      refine lv_iconst (v := (4 : Int32)) E.1 E.2.1 dX7_place_13 (by decide) ?_
      refine lv_iload_n E.1 E.2.1 dX7_place_14 rfl (lv_at hl 1 rfl) ?_
      refine lv_iadd E.1 E.2.1 dX7_place_15 ?_
      refine lv_goto (tgt := 33) E.1 E.2.1 dX7_place_16 (by decide) ?_
      exact e_i E hW hr hlk h dX7_place_33
  · have h := ifp h g
    refine lv_iload_n E.1 E.2.1 dX7_place_4 rfl (lv_at hl 1 rfl) ?_
    refine lv_goto (tgt := 33) E.1 E.2.1 dX7_place_5 (by decide) ?_
    exact e_i E hW hr hlk h dX7_place_33
set_option maxHeartbeats 4000000 in
set_option maxRecDepth 100000 in
theorem m_X7_iOf {l : Launch} {G : GP} {sz : Nat} {a0 : Int32} {σ σ0 : St} {r0 : Int32} (h : f_X7_iOf a0 σ = some (r0, σ0)) : Met l yX7_iOf [.code yX7_iOf cX7_iOf 1 (some .int)] ({ frames := 0, cells := 0, slots := 0, locals := 0 } : Room) (va_Pc [.int a0] (PreC G skR sz σ)) (QO (PoC G skR σ0) (Aw G.2.2.2 skR.1 sz) (some (.int r0))) 0 0 (Aw G.2.2.2 skR.1 sz) := by
  refine mkMet (by decide +kernel) (Nat.le_of_ble_eq_true rfl) skR_ok ?_
  intro p e s m below meth c ls E hW hl hr hlk
  have hl : lv_has ls 1 [(0, .int a0)] := hl
  generalize Aw G.2.2.2 skR.1 s.heap.size = A0 at E hW ⊢
  generalize ([.int a0] : List Value).toArray = args
  unfold f_X7_iOf at h
  refine lv_iload_n E.1 E.2.1 dX7_iOf_0 rfl (lv_at hl 0 rfl) ?_
  refine lv_iconst (v := (4 : Int32)) E.1 E.2.1 dX7_iOf_1 (by decide) ?_
  refine lv_icmp_ge (tgt := 9) E.1 E.2.1 dX7_iOf_2 (by decide) (fun g => ?_) (fun g => ?_)
  · have h := ifp h g
    refine lv_iload_n E.1 E.2.1 dX7_iOf_9 rfl (lv_at hl 0 rfl) ?_
    refine lv_bipush (v := (7 : Int32)) E.1 E.2.1 dX7_iOf_10 (by decide) ?_
    refine lv_icmp_ge (tgt := 19) E.1 E.2.1 dX7_iOf_12 (by decide) (fun g => ?_) (fun g => ?_)
    · have h := ifp h g
      refine lv_iload_n E.1 E.2.1 dX7_iOf_19 rfl (lv_at hl 0 rfl) ?_
      refine lv_bipush (v := (9 : Int32)) E.1 E.2.1 dX7_iOf_20 (by decide) ?_
      refine lv_icmp_ge (tgt := 29) E.1 E.2.1 dX7_iOf_22 (by decide) (fun g => ?_) (fun g => ?_)
      · have h := ifp h g
        refine lv_iconst (v := (3 : Int32)) E.1 E.2.1 dX7_iOf_29 (by decide) ?_
        exact e_i E hW hr hlk h dX7_iOf_30
      · have h := ifn h g
        refine lv_iconst (v := (2 : Int32)) E.1 E.2.1 dX7_iOf_25 (by decide) ?_
        refine lv_goto (tgt := 30) E.1 E.2.1 dX7_iOf_26 (by decide) ?_
        exact e_i E hW hr hlk h dX7_iOf_30
    · have h := ifn h g
      refine lv_iconst (v := (1 : Int32)) E.1 E.2.1 dX7_iOf_15 (by decide) ?_
      refine lv_goto (tgt := 30) E.1 E.2.1 dX7_iOf_16 (by decide) ?_
      exact e_i E hW hr hlk h dX7_iOf_30
  · have h := ifn h g
    refine lv_iconst (v := (0 : Int32)) E.1 E.2.1 dX7_iOf_5 (by decide) ?_
    refine lv_goto (tgt := 30) E.1 E.2.1 dX7_iOf_6 (by decide) ?_
    exact e_i E hW hr hlk h dX7_iOf_30
set_option maxHeartbeats 4000000 in
set_option maxRecDepth 100000 in
theorem m_X7_jOf {l : Launch} {G : GP} {sz : Nat} {a0 : Int32} {σ σ0 : St} {r0 : Int32} (h : f_X7_jOf a0 σ = some (r0, σ0)) : Met l yX7_jOf [.code yX7_jOf cX7_jOf 1 (some .int)] ({ frames := 0, cells := 0, slots := 0, locals := 0 } : Room) (va_Pc [.int a0] (PreC G skR sz σ)) (QO (PoC G skR σ0) (Aw G.2.2.2 skR.1 sz) (some (.int r0))) 0 0 (Aw G.2.2.2 skR.1 sz) := by
  refine mkMet (by decide +kernel) (Nat.le_of_ble_eq_true rfl) skR_ok ?_
  intro p e s m below meth c ls E hW hl hr hlk
  have hl : lv_has ls 1 [(0, .int a0)] := hl
  generalize Aw G.2.2.2 skR.1 s.heap.size = A0 at E hW ⊢
  generalize ([.int a0] : List Value).toArray = args
  unfold f_X7_jOf at h
  refine lv_iload_n E.1 E.2.1 dX7_jOf_0 rfl (lv_at hl 0 rfl) ?_
  refine lv_iconst (v := (4 : Int32)) E.1 E.2.1 dX7_jOf_1 (by decide) ?_
  refine lv_icmp_ge (tgt := 9) E.1 E.2.1 dX7_jOf_2 (by decide) (fun g => ?_) (fun g => ?_)
  · have h := ifp h g
    refine lv_iload_n E.1 E.2.1 dX7_jOf_9 rfl (lv_at hl 0 rfl) ?_
    refine lv_bipush (v := (7 : Int32)) E.1 E.2.1 dX7_jOf_10 (by decide) ?_
    refine lv_icmp_ge (tgt := 21) E.1 E.2.1 dX7_jOf_12 (by decide) (fun g => ?_) (fun g => ?_)
    · have h := ifp h g
      refine lv_iload_n E.1 E.2.1 dX7_jOf_21 rfl (lv_at hl 0 rfl) ?_
      refine lv_bipush (v := (9 : Int32)) E.1 E.2.1 dX7_jOf_22 (by decide) ?_
      refine lv_icmp_ge (tgt := 34) E.1 E.2.1 dX7_jOf_24 (by decide) (fun g => ?_) (fun g => ?_)
      · have h := ifp h g
        refine lv_iconst (v := (0 : Int32)) E.1 E.2.1 dX7_jOf_34 (by decide) ?_
        exact e_i E hW hr hlk h dX7_jOf_35
      · have h := ifn h g
        refine lv_iload_n E.1 E.2.1 dX7_jOf_27 rfl (lv_at hl 0 rfl) ?_
        refine lv_bipush (v := (7 : Int32)) E.1 E.2.1 dX7_jOf_28 (by decide) ?_
        refine lv_isub E.1 E.2.1 dX7_jOf_30 ?_
        refine lv_goto (tgt := 35) E.1 E.2.1 dX7_jOf_31 (by decide) ?_
        exact e_i E hW hr hlk h dX7_jOf_35
    · have h := ifn h g
      refine lv_iload_n E.1 E.2.1 dX7_jOf_15 rfl (lv_at hl 0 rfl) ?_
      refine lv_iconst (v := (4 : Int32)) E.1 E.2.1 dX7_jOf_16 (by decide) ?_
      refine lv_isub E.1 E.2.1 dX7_jOf_17 ?_
      refine lv_goto (tgt := 35) E.1 E.2.1 dX7_jOf_18 (by decide) ?_
      exact e_i E hW hr hlk h dX7_jOf_35
  · have h := ifn h g
    refine lv_iload_n E.1 E.2.1 dX7_jOf_5 rfl (lv_at hl 0 rfl) ?_
    refine lv_goto (tgt := 35) E.1 E.2.1 dX7_jOf_6 (by decide) ?_
    exact e_i E hW hr hlk h dX7_jOf_35
set_option maxHeartbeats 4000000 in
set_option maxRecDepth 100000 in
theorem m_X7_smaller {l : Launch} {G : GP} {sz : Nat} {a0 : Int64} {a2 : Int64} {σ σ0 : St} {r0 : Int64} (h : f_X7_smaller a0 a2 σ = some (r0, σ0)) : Met l yX7_smaller [.code yX7_smaller cX7_smaller 4 (some .long)] ({ frames := 0, cells := 0, slots := 0, locals := 0 } : Room) (va_Pc [.long a0, .long a2] (PreC G skR sz σ)) (QO (PoC G skR σ0) (Aw G.2.2.2 skR.1 sz) (some (.long r0))) 0 0 (Aw G.2.2.2 skR.1 sz) := by
  refine mkMet (by decide +kernel) (Nat.le_of_ble_eq_true rfl) skR_ok ?_
  intro p e s m below meth c ls E hW hl hr hlk
  have hl : lv_has ls 4 [(0, .long a0), (2, .long a2)] := hl
  generalize Aw G.2.2.2 skR.1 s.heap.size = A0 at E hW ⊢
  generalize ([.long a0, .long a2] : List Value).toArray = args
  unfold f_X7_smaller at h
  refine lv_lload_n E.1 E.2.1 dX7_smaller_0 rfl (lv_at hl 0 rfl) ?_
  refine lv_lload_n E.1 E.2.1 dX7_smaller_1 rfl (lv_at hl 1 rfl) ?_
  refine r_lc_ge E dX7_smaller_2 dX7_smaller_3 (tgt := 10) (by decide) (fun g => ?_) (fun g => ?_)
  · have h := ifn h g
    refine lv_lload_n E.1 E.2.1 dX7_smaller_10 rfl (lv_at hl 1 rfl) ?_
    exact e_j E hW hr hlk h dX7_smaller_11
  · have h := ifp h g
    refine lv_lload_n E.1 E.2.1 dX7_smaller_6 rfl (lv_at hl 0 rfl) ?_
    refine lv_goto (tgt := 11) E.1 E.2.1 dX7_smaller_7 (by decide) ?_
    exact e_j E hW hr hlk h dX7_smaller_11
set_option maxHeartbeats 4000000 in
set_option maxRecDepth 100000 in
theorem m_X7_greater {l : Launch} {G : GP} {sz : Nat} {a0 : Int64} {a2 : Int64} {σ σ0 : St} {r0 : Int64} (h : f_X7_greater a0 a2 σ = some (r0, σ0)) : Met l yX7_greater [.code yX7_greater cX7_greater 4 (some .long)] ({ frames := 0, cells := 0, slots := 0, locals := 0 } : Room) (va_Pc [.long a0, .long a2] (PreC G skR sz σ)) (QO (PoC G skR σ0) (Aw G.2.2.2 skR.1 sz) (some (.long r0))) 0 0 (Aw G.2.2.2 skR.1 sz) := by
  refine mkMet (by decide +kernel) (Nat.le_of_ble_eq_true rfl) skR_ok ?_
  intro p e s m below meth c ls E hW hl hr hlk
  have hl : lv_has ls 4 [(0, .long a0), (2, .long a2)] := hl
  generalize Aw G.2.2.2 skR.1 s.heap.size = A0 at E hW ⊢
  generalize ([.long a0, .long a2] : List Value).toArray = args
  unfold f_X7_greater at h
  refine lv_lload_n E.1 E.2.1 dX7_greater_0 rfl (lv_at hl 0 rfl) ?_
  refine lv_lload_n E.1 E.2.1 dX7_greater_1 rfl (lv_at hl 1 rfl) ?_
  refine r_lc_le E dX7_greater_2 dX7_greater_3 (tgt := 10) (by decide) (fun g => ?_) (fun g => ?_)
  · have h := ifn h g
    refine lv_lload_n E.1 E.2.1 dX7_greater_10 rfl (lv_at hl 1 rfl) ?_
    exact e_j E hW hr hlk h dX7_greater_11
  · have h := ifp h g
    refine lv_lload_n E.1 E.2.1 dX7_greater_6 rfl (lv_at hl 0 rfl) ?_
    refine lv_goto (tgt := 11) E.1 E.2.1 dX7_greater_7 (by decide) ?_
    exact e_j E hW hr hlk h dX7_greater_11
set_option maxHeartbeats 4000000 in
set_option maxRecDepth 100000 in
theorem m_X7_down {l : Launch} {G : GP} {sz : Nat} {a0 : Int64} {a2 : Int64} {σ σ0 : St} {r0 : Int64} (h : f_X7_down a0 a2 σ = some (r0, σ0)) : Met l yX7_down [.code yX7_down cX7_down 4 (some .long)] ({ frames := 0, cells := 0, slots := 0, locals := 0 } : Room) (va_Pc [.long a0, .long a2] (PreC G skR sz σ)) (QO (PoC G skR σ0) (Aw G.2.2.2 skR.1 sz) (some (.long r0))) 0 0 (Aw G.2.2.2 skR.1 sz) := by
  refine mkMet (by decide +kernel) (Nat.le_of_ble_eq_true rfl) skR_ok ?_
  intro p e s m below meth c ls E hW hl hr hlk
  have hl : lv_has ls 4 [(0, .long a0), (2, .long a2)] := hl
  generalize Aw G.2.2.2 skR.1 s.heap.size = A0 at E hW ⊢
  generalize ([.long a0, .long a2] : List Value).toArray = args
  unfold f_X7_down at h
  refine lv_lload_n E.1 E.2.1 dX7_down_0 rfl (lv_at hl 0 rfl) ?_
  refine lv_lconst (v := (0 : Int64)) E.1 E.2.1 dX7_down_1 (by decide) ?_
  refine r_lc_lt E dX7_down_2 dX7_down_3 (tgt := 12) (by decide) (fun g => ?_) (fun g => ?_)
  · have h := ifp h g
    refine lv_lload_n E.1 E.2.1 dX7_down_12 rfl (lv_at hl 1 rfl) ?_
    refine lv_lconst (v := (1 : Int64)) E.1 E.2.1 dX7_down_13 (by decide) ?_
    refine lv_lsub E.1 E.2.1 dX7_down_14 ?_
    refine lv_lload_n E.1 E.2.1 dX7_down_15 rfl (lv_at hl 0 rfl) ?_
    refine lv_lsub E.1 E.2.1 dX7_down_16 ?_
    refine lv_lload_n E.1 E.2.1 dX7_down_17 rfl (lv_at hl 1 rfl) ?_
    obtain ⟨g1, h⟩ := gd_r h
    refine lv_ldiv E.1 E.2.1 dX7_down_18 g1 ?_
    refine lv_lneg E.1 E.2.1 dX7_down_19 ?_
    exact e_j E hW hr hlk h dX7_down_20
  · have h := ifn h g
    refine lv_lload_n E.1 E.2.1 dX7_down_6 rfl (lv_at hl 0 rfl) ?_
    refine lv_lload_n E.1 E.2.1 dX7_down_7 rfl (lv_at hl 1 rfl) ?_
    obtain ⟨g2, h⟩ := gd_r h
    refine lv_ldiv E.1 E.2.1 dX7_down_8 g2 ?_
    refine lv_goto (tgt := 20) E.1 E.2.1 dX7_down_9 (by decide) ?_
    exact e_j E hW hr hlk h dX7_down_20
set_option maxHeartbeats 4000000 in
set_option maxRecDepth 100000 in
theorem m_X7_up {l : Launch} {G : GP} {sz : Nat} {a0 : Int64} {a2 : Int64} {σ σ0 : St} {r0 : Int64} (h : f_X7_up a0 a2 σ = some (r0, σ0)) : Met l yX7_up [.code yX7_up cX7_up 4 (some .long)] ({ frames := 1, cells := 0, slots := 0, locals := 23 } : Room) (va_Pc [.long a0, .long a2] (PreC G skR sz σ)) (QO (PoC G skR σ0) (Aw G.2.2.2 skR.1 sz) (some (.long r0))) 0 0 (Aw G.2.2.2 skR.1 sz) := by
  refine mkMet (by decide +kernel) (Nat.le_of_ble_eq_true rfl) skR_ok ?_
  intro p e s m below meth c ls E hW hl hr hlk
  have hl : lv_has ls 4 [(0, .long a0), (2, .long a2)] := hl
  generalize Aw G.2.2.2 skR.1 s.heap.size = A0 at E hW ⊢
  generalize ([.long a0, .long a2] : List Value).toArray = args
  unfold f_X7_up at h
  refine lv_lload_n E.1 E.2.1 dX7_up_0 rfl (lv_at hl 0 rfl) ?_
  refine lv_lneg E.1 E.2.1 dX7_up_1 ?_
  refine lv_lload_n E.1 E.2.1 dX7_up_2 rfl (lv_at hl 1 rfl) ?_
  obtain ⟨x2, σ1, c3, h⟩ := obn_r h
  refine c_S (As := [.long (-a0), .long a2]) (rest := []) E hW (m_X7_down c3) kw_1119 ws_X7_down yo_X7_down ⟨rfl, rfl⟩ ⟨(Nat.le_of_ble_eq_true rfl), (Nat.le_of_ble_eq_true rfl)⟩ (lv_size hl) (Nat.le_of_ble_eq_true rfl) ⟨(Nat.le_of_ble_eq_true rfl), (Nat.le_of_ble_eq_true rfl)⟩ rfl dX7_up_3 (fun H locs hW => ?_)
  refine W.eq (g2 := F0 m 6 ls [.long x2]) rfl ?_
  refine lv_lneg E.1 E.2.1 dX7_up_6 ?_
  exact e_j E hW hr hlk h dX7_up_7
set_option maxHeartbeats 4000000 in
set_option maxRecDepth 100000 in
theorem m_X7_low {l : Launch} {G : GP} {sz : Nat} {a0 : Int64} {a2 : Int32} {a3 : Int32} {σ σ0 : St} {r0 : Int64} (h : f_X7_low a0 a2 a3 σ = some (r0, σ0)) : Met l yX7_low [.code yX7_low cX7_low 4 (some .long)] ({ frames := 1, cells := 0, slots := 0, locals := 23 } : Room) (va_Pc [.long a0, .int a2, .int a3] (PreC G skR sz σ)) (QO (PoC G skR σ0) (Aw G.2.2.2 skR.1 sz) (some (.long r0))) 0 0 (Aw G.2.2.2 skR.1 sz) := by
  refine mkMet (by decide +kernel) (Nat.le_of_ble_eq_true rfl) skR_ok ?_
  intro p e s m below meth c ls E hW hl hr hlk
  have hl : lv_has ls 4 [(0, .long a0), (2, .int a2), (3, .int a3)] := hl
  generalize Aw G.2.2.2 skR.1 s.heap.size = A0 at E hW ⊢
  generalize ([.long a0, .int a2, .int a3] : List Value).toArray = args
  unfold f_X7_low at h
  refine lv_iload_n E.1 E.2.1 dX7_low_0 rfl (lv_at hl 1 rfl) ?_
  obtain ⟨J5, eJ5, h⟩ := bnd_x h
  have hJ5 : ∀ (x2 : Int64) (x3 : Int32) (x4 : Int32) (σ1 : St) (H : Heap) (locs : List Loc) (ls : Array Slot), J5 x2 x3 x4 σ1 = some (r0, σ0) → Wo G skR A0 s σ1 H locs → lv_has ls 4 [(0, .long x2), (2, .int x3), (3, .int x4)] → W p l e ({ frames := 1, cells := 0, slots := 0, locals := 23 } : Room) s m args below meth c H locs 0 0 (MQ below (QO (PoC G skR σ0) A0 (some (.long r0))) args s 0 0 A0) (F0 m 12 ls []) := by
    intro x2 x3 x4 σ1 H locs ls h hW hl
    have h := jr4 eJ5 h
    refine lv_iload_n E.1 E.2.1 dX7_low_12 rfl (lv_at hl 1 rfl) ?_
    refine lv_iconst (v := (2 : Int32)) E.1 E.2.1 dX7_low_13 (by decide) ?_
    refine lv_irem E.1 E.2.1 dX7_low_14 (by decide) ?_
    obtain ⟨J8, eJ8, h⟩ := bnd_x h
    have hJ8 : ∀ (x7 : Int64) (σ6 : St) (H : Heap) (locs : List Loc) (ls : Array Slot), J8 x7 σ6 = some (r0, σ0) → Wo G skR A0 s σ6 H locs → lv_has ls 4 [(0, .long x7)] → W p l e ({ frames := 1, cells := 0, slots := 0, locals := 23 } : Room) s m args below meth c H locs 0 0 (MQ below (QO (PoC G skR σ0) A0 (some (.long r0))) args s 0 0 A0) (F0 m 32 ls []) := by
      intro x7 σ6 H locs ls h hW hl
      have h := jr2 eJ8 h
      refine lv_lload_n E.1 E.2.1 dX7_low_32 rfl (lv_at hl 0 rfl) ?_
      refine lv_lload_n E.1 E.2.1 dX7_low_33 rfl (lv_at hl 0 rfl) ?_
      refine lv_lneg E.1 E.2.1 dX7_low_34 ?_
      obtain ⟨x10, σ9, c11, h⟩ := obn_r h
      refine c_S (As := [.long x7, .long (-x7)]) (rest := []) E hW (m_X7_smaller c11) kw_1116 ws_X7_smaller yo_X7_smaller ⟨rfl, rfl⟩ ⟨(Nat.le_of_ble_eq_true rfl), (Nat.le_of_ble_eq_true rfl)⟩ (lv_size hl) (Nat.le_of_ble_eq_true rfl) ⟨(Nat.le_of_ble_eq_true rfl), (Nat.le_of_ble_eq_true rfl)⟩ rfl dX7_low_35 (fun H locs hW => ?_)
      refine W.eq (g2 := F0 m 38 ls [.long x10]) rfl ?_
      exact e_j E hW hr hlk h dX7_low_38
    refine lv_if_ne (tgt := 32) E.1 E.2.1 dX7_low_15 (by decide) (fun g => ?_) (fun g => ?_)
    · have h := ifn h g
      exact hJ8 _ _ _ _ _ h hW (lv_sub hl [0] rfl)
    · have h := ifp h g
      refine lv_iload_n E.1 E.2.1 dX7_low_18 rfl (lv_at hl 2 rfl) ?_
      refine lv_iconst (v := (2 : Int32)) E.1 E.2.1 dX7_low_19 (by decide) ?_
      refine lv_irem E.1 E.2.1 dX7_low_20 (by decide) ?_
      refine lv_if_ne (tgt := 32) E.1 E.2.1 dX7_low_21 (by decide) (fun g => ?_) (fun g => ?_)
      · have h := ifn h g
        exact hJ8 _ _ _ _ _ h hW (lv_sub hl [0] rfl)
      · have h := ifp h g
        refine lv_lload_n E.1 E.2.1 dX7_low_24 rfl (lv_at hl 0 rfl) ?_
        refine lv_lconst (v := (0 : Int64)) E.1 E.2.1 dX7_low_25 (by decide) ?_
        obtain ⟨x13, σ12, c14, h⟩ := obn_r h
        refine c_S (As := [.long x2, .long (0 : Int64)]) (rest := []) E hW (m_X7_smaller c14) kw_1116 ws_X7_smaller yo_X7_smaller ⟨rfl, rfl⟩ ⟨(Nat.le_of_ble_eq_true rfl), (Nat.le_of_ble_eq_true rfl)⟩ (lv_size hl) (Nat.le_of_ble_eq_true rfl) ⟨(Nat.le_of_ble_eq_true rfl), (Nat.le_of_ble_eq_true rfl)⟩ rfl dX7_low_26 (fun H locs hW => ?_)
        refine W.eq (g2 := F0 m 29 ls [.long x13]) rfl ?_
        refine lv_goto (tgt := 38) E.1 E.2.1 dX7_low_29 (by decide) ?_
        exact e_j E hW hr hlk h dX7_low_38
  refine lv_if_ne (tgt := 12) E.1 E.2.1 dX7_low_1 (by decide) (fun g => ?_) (fun g => ?_)
  · have h := ifn h g
    exact hJ5 _ _ _ _ _ _ _ h hW (lv_sub hl [0, 1, 2] rfl)
  · have h := ifp h g
    refine lv_iload_n E.1 E.2.1 dX7_low_4 rfl (lv_at hl 2 rfl) ?_
    refine lv_if_ne (tgt := 12) E.1 E.2.1 dX7_low_5 (by decide) (fun g => ?_) (fun g => ?_)
    · have h := ifn h g
      exact hJ5 _ _ _ _ _ _ _ h hW (lv_sub hl [0, 1, 2] rfl)
    · have h := ifp h g
      refine lv_lload_n E.1 E.2.1 dX7_low_8 rfl (lv_at hl 0 rfl) ?_
      refine lv_goto (tgt := 38) E.1 E.2.1 dX7_low_9 (by decide) ?_
      exact e_j E hW hr hlk h dX7_low_38
set_option maxHeartbeats 4000000 in
set_option maxRecDepth 100000 in
theorem m_X7_high {l : Launch} {G : GP} {sz : Nat} {a0 : Int64} {a2 : Int32} {a3 : Int32} {σ σ0 : St} {r0 : Int64} (h : f_X7_high a0 a2 a3 σ = some (r0, σ0)) : Met l yX7_high [.code yX7_high cX7_high 4 (some .long)] ({ frames := 2, cells := 0, slots := 0, locals := 46 } : Room) (va_Pc [.long a0, .int a2, .int a3] (PreC G skR sz σ)) (QO (PoC G skR σ0) (Aw G.2.2.2 skR.1 sz) (some (.long r0))) 0 0 (Aw G.2.2.2 skR.1 sz) := by
  refine mkMet (by decide +kernel) (Nat.le_of_ble_eq_true rfl) skR_ok ?_
  intro p e s m below meth c ls E hW hl hr hlk
  have hl : lv_has ls 4 [(0, .long a0), (2, .int a2), (3, .int a3)] := hl
  generalize Aw G.2.2.2 skR.1 s.heap.size = A0 at E hW ⊢
  generalize ([.long a0, .int a2, .int a3] : List Value).toArray = args
  unfold f_X7_high at h
  refine lv_lload_n E.1 E.2.1 dX7_high_0 rfl (lv_at hl 0 rfl) ?_
  refine lv_lneg E.1 E.2.1 dX7_high_1 ?_
  refine lv_iload_n E.1 E.2.1 dX7_high_2 rfl (lv_at hl 1 rfl) ?_
  refine lv_iload_n E.1 E.2.1 dX7_high_3 rfl (lv_at hl 2 rfl) ?_
  obtain ⟨x2, σ1, c3, h⟩ := obn_r h
  refine c_S (As := [.long (-a0), .int a2, .int a3]) (rest := []) E hW (m_X7_low c3) kw_1113 ws_X7_low yo_X7_low ⟨rfl, rfl⟩ ⟨(Nat.le_of_ble_eq_true rfl), (Nat.le_of_ble_eq_true rfl)⟩ (lv_size hl) (Nat.le_of_ble_eq_true rfl) ⟨(Nat.le_of_ble_eq_true rfl), (Nat.le_of_ble_eq_true rfl)⟩ rfl dX7_high_4 (fun H locs hW => ?_)
  refine W.eq (g2 := F0 m 7 ls [.long x2]) rfl ?_
  refine lv_lneg E.1 E.2.1 dX7_high_7 ?_
  exact e_j E hW hr hlk h dX7_high_8
set_option maxHeartbeats 4000000 in
set_option maxRecDepth 100000 in
theorem L_X7_spreadLow_4 {p : Program} {l : Launch} {e : Env} {s : State} {m : MethodId} {args : Array Value} {below : List Frame} {meth : Method} {c : Code} {G : GP} {A0 : Nat → Prop} {σ0 : St} {r0 : Int64} (E : En p m c s cX7_spreadLow 4 yX7_spreadLow.cls G A0) (hr : meth.sig.returnType = (some .long)) (hlk : meth.locks = false) : ∀ (n5 : Nat) (q2 : Nat) (x3 : Int64) (x4 : Int32) (σ1 : St) (H : Heap) (locs : List Loc) (ls : Array Slot), f_X7_spreadLow_L4 n5 q2 x3 x4 σ1 = some (r0, σ0) → Wo G skR A0 s σ1 H locs → lv_has ls 4 [(0, .ref (G.2.2.2 + q2)), (1, .long x3), (3, .int x4)] → W p l e ({ frames := 2, cells := 0, slots := 0, locals := 46 } : Room) s m args below meth c H locs 0 0 (MQ below (QO (PoC G skR σ0) A0 (some (.long r0))) args s 0 0 A0) (F0 m 4 ls []) := by
  intro n5
  induction n5 with
  | zero =>
    intro q2 x3 x4 σ1 H locs ls h hW hl
    rw [f_X7_spreadLow_L4] at h
    cases h
  | succ n5 ih =>
    intro q2 x3 x4 σ1 H locs ls h hW hl
    rw [f_X7_spreadLow_L4] at h
    refine lv_iload_n E.1 E.2.1 dX7_spreadLow_4 rfl (lv_at hl 2 rfl) ?_
    refine lv_bipush (v := (10 : Int32)) E.1 E.2.1 dX7_spreadLow_5 (by decide) ?_
    refine lv_icmp_ge (tgt := 33) E.1 E.2.1 dX7_spreadLow_7 (by decide) (fun g => ?_) (fun g => ?_)
    · have h := ifp h g
      refine lv_lload_n E.1 E.2.1 dX7_spreadLow_33 rfl (lv_at hl 1 rfl) ?_
      exact e_j E hW hr hlk h dX7_spreadLow_34
    · have h := ifn h g
      refine lv_lload_n E.1 E.2.1 dX7_spreadLow_10 rfl (lv_at hl 1 rfl) ?_
      refine lv_aload_n E.1 E.2.1 dX7_spreadLow_11 rfl (lv_at hl 0 rfl) ?_
      refine lv_iload_n E.1 E.2.1 dX7_spreadLow_12 rfl (lv_at hl 2 rfl) ?_
      obtain ⟨g6, h⟩ := gd_r h
      refine r_lald E hW (pr_eq g6.1) g6.2 dX7_spreadLow_13 ?_
      refine lv_iload_n E.1 E.2.1 dX7_spreadLow_14 rfl (lv_at hl 2 rfl) ?_
      obtain ⟨x8, σ7, c9, h⟩ := obn_r h
      refine c_S (As := [.int x4]) (rest := [.long (σ1.2 q2 x4.toNatClampNeg), .long x3]) E hW (m_X7_iOf c9) kw_1107 ws_X7_iOf yo_X7_iOf ⟨rfl, rfl⟩ ⟨(Nat.le_of_ble_eq_true rfl), (Nat.le_of_ble_eq_true rfl)⟩ (lv_size hl) (Nat.le_of_ble_eq_true rfl) ⟨(Nat.le_of_ble_eq_true rfl), (Nat.le_of_ble_eq_true rfl)⟩ rfl dX7_spreadLow_15 (fun H locs hW => ?_)
      refine W.eq (g2 := F0 m 18 ls [.int x8, .long (σ1.2 q2 x4.toNatClampNeg), .long x3]) rfl ?_
      refine lv_iload_n E.1 E.2.1 dX7_spreadLow_18 rfl (lv_at hl 2 rfl) ?_
      obtain ⟨x11, σ10, c12, h⟩ := obn_r h
      refine c_S (As := [.int x4]) (rest := [.int x8, .long (σ1.2 q2 x4.toNatClampNeg), .long x3]) E hW (m_X7_jOf c12) kw_1110 ws_X7_jOf yo_X7_jOf ⟨rfl, rfl⟩ ⟨(Nat.le_of_ble_eq_true rfl), (Nat.le_of_ble_eq_true rfl)⟩ (lv_size hl) (Nat.le_of_ble_eq_true rfl) ⟨(Nat.le_of_ble_eq_true rfl), (Nat.le_of_ble_eq_true rfl)⟩ rfl dX7_spreadLow_19 (fun H locs hW => ?_)
      refine W.eq (g2 := F0 m 22 ls [.int x11, .int x8, .long (σ1.2 q2 x4.toNatClampNeg), .long x3]) rfl ?_
      obtain ⟨x14, σ13, c15, h⟩ := obn_r h
      refine c_S (As := [.long (σ1.2 q2 x4.toNatClampNeg), .int x8, .int x11]) (rest := [.long x3]) E hW (m_X7_low c15) kw_1113 ws_X7_low yo_X7_low ⟨rfl, rfl⟩ ⟨(Nat.le_of_ble_eq_true rfl), (Nat.le_of_ble_eq_true rfl)⟩ (lv_size hl) (Nat.le_of_ble_eq_true rfl) ⟨(Nat.le_of_ble_eq_true rfl), (Nat.le_of_ble_eq_true rfl)⟩ rfl dX7_spreadLow_22 (fun H locs hW => ?_)
      refine W.eq (g2 := F0 m 25 ls [.long x14, .long x3]) rfl ?_
      refine lv_ladd E.1 E.2.1 dX7_spreadLow_25 ?_
      refine lv_topl (fun x16 ex16 => ?_)
      have h := bnd_r ex16 h
      refine lv_lstore_n (lv' := [(1, .long x16), (0, .ref (G.2.2.2 + q2)), (3, .int x4)]) E.1 E.2.1 dX7_spreadLow_26 rfl hl (by decide) rfl (fun ls hl => ?_)
      obtain ⟨x17, ex17⟩ : ∃ y : Int32, y = x4 + (1 : Int32) := ⟨_, rfl⟩
      have h := bnd_r ex17 h
      refine lv_iinc (v := x17) (lv' := [(3, .int x17), (1, .long x16), (0, .ref (G.2.2.2 + q2))]) E.1 E.2.1 dX7_spreadLow_27 hl (k := 2) rfl (by rw [ex17]; rfl) (by decide) rfl (fun ls hl => ?_)
      refine lv_goto (tgt := 4) E.1 E.2.1 dX7_spreadLow_30 (by decide) ?_
      exact ih _ _ _ _ _ _ _ h hW (lv_sub hl [2, 1, 0] rfl)
set_option maxHeartbeats 4000000 in
set_option maxRecDepth 100000 in
theorem m_X7_spreadLow {l : Launch} {G : GP} {sz : Nat} {q0 : Nat} {σ σ0 : St} {r0 : Int64} (h : f_X7_spreadLow q0 σ = some (r0, σ0)) : Met l yX7_spreadLow [.code yX7_spreadLow cX7_spreadLow 4 (some .long)] ({ frames := 2, cells := 0, slots := 0, locals := 46 } : Room) (va_Pc [.ref (G.2.2.2 + q0)] (PreC G skR sz σ)) (QO (PoC G skR σ0) (Aw G.2.2.2 skR.1 sz) (some (.long r0))) 0 0 (Aw G.2.2.2 skR.1 sz) := by
  refine mkMet (by decide +kernel) (Nat.le_of_ble_eq_true rfl) skR_ok ?_
  intro p e s m below meth c ls E hW hl hr hlk
  have hl : lv_has ls 4 [(0, .ref (G.2.2.2 + q0))] := hl
  generalize Aw G.2.2.2 skR.1 s.heap.size = A0 at E hW ⊢
  generalize ([.ref (G.2.2.2 + q0)] : List Value).toArray = args
  unfold f_X7_spreadLow at h
  refine lv_lconst (v := (0 : Int64)) E.1 E.2.1 dX7_spreadLow_0 (by decide) ?_
  refine lv_lstore_n (lv' := [(1, .long (0 : Int64)), (0, .ref (G.2.2.2 + q0))]) E.1 E.2.1 dX7_spreadLow_1 rfl hl (by decide) rfl (fun ls hl => ?_)
  refine lv_iconst (v := (0 : Int32)) E.1 E.2.1 dX7_spreadLow_2 (by decide) ?_
  refine lv_istore_n (lv' := [(3, .int (0 : Int32)), (1, .long (0 : Int64)), (0, .ref (G.2.2.2 + q0))]) E.1 E.2.1 dX7_spreadLow_3 rfl hl (by decide) rfl (fun ls hl => ?_)
  refine L_X7_spreadLow_4 E hr hlk _ _ _ _ _ _ _ _ h hW (lv_sub hl [2, 1, 0] rfl)
set_option maxHeartbeats 4000000 in
set_option maxRecDepth 100000 in
theorem L_X7_spreadHigh_4 {p : Program} {l : Launch} {e : Env} {s : State} {m : MethodId} {args : Array Value} {below : List Frame} {meth : Method} {c : Code} {G : GP} {A0 : Nat → Prop} {σ0 : St} {r0 : Int64} (E : En p m c s cX7_spreadHigh 4 yX7_spreadHigh.cls G A0) (hr : meth.sig.returnType = (some .long)) (hlk : meth.locks = false) : ∀ (n5 : Nat) (q2 : Nat) (x3 : Int64) (x4 : Int32) (σ1 : St) (H : Heap) (locs : List Loc) (ls : Array Slot), f_X7_spreadHigh_L4 n5 q2 x3 x4 σ1 = some (r0, σ0) → Wo G skR A0 s σ1 H locs → lv_has ls 4 [(0, .ref (G.2.2.2 + q2)), (1, .long x3), (3, .int x4)] → W p l e ({ frames := 3, cells := 0, slots := 0, locals := 69 } : Room) s m args below meth c H locs 0 0 (MQ below (QO (PoC G skR σ0) A0 (some (.long r0))) args s 0 0 A0) (F0 m 4 ls []) := by
  intro n5
  induction n5 with
  | zero =>
    intro q2 x3 x4 σ1 H locs ls h hW hl
    rw [f_X7_spreadHigh_L4] at h
    cases h
  | succ n5 ih =>
    intro q2 x3 x4 σ1 H locs ls h hW hl
    rw [f_X7_spreadHigh_L4] at h
    refine lv_iload_n E.1 E.2.1 dX7_spreadHigh_4 rfl (lv_at hl 2 rfl) ?_
    refine lv_bipush (v := (10 : Int32)) E.1 E.2.1 dX7_spreadHigh_5 (by decide) ?_
    refine lv_icmp_ge (tgt := 33) E.1 E.2.1 dX7_spreadHigh_7 (by decide) (fun g => ?_) (fun g => ?_)
    · have h := ifp h g
      refine lv_lload_n E.1 E.2.1 dX7_spreadHigh_33 rfl (lv_at hl 1 rfl) ?_
      exact e_j E hW hr hlk h dX7_spreadHigh_34
    · have h := ifn h g
      refine lv_lload_n E.1 E.2.1 dX7_spreadHigh_10 rfl (lv_at hl 1 rfl) ?_
      refine lv_aload_n E.1 E.2.1 dX7_spreadHigh_11 rfl (lv_at hl 0 rfl) ?_
      refine lv_iload_n E.1 E.2.1 dX7_spreadHigh_12 rfl (lv_at hl 2 rfl) ?_
      obtain ⟨g6, h⟩ := gd_r h
      refine r_lald E hW (pr_eq g6.1) g6.2 dX7_spreadHigh_13 ?_
      refine lv_iload_n E.1 E.2.1 dX7_spreadHigh_14 rfl (lv_at hl 2 rfl) ?_
      obtain ⟨x8, σ7, c9, h⟩ := obn_r h
      refine c_S (As := [.int x4]) (rest := [.long (σ1.2 q2 x4.toNatClampNeg), .long x3]) E hW (m_X7_iOf c9) kw_1107 ws_X7_iOf yo_X7_iOf ⟨rfl, rfl⟩ ⟨(Nat.le_of_ble_eq_true rfl), (Nat.le_of_ble_eq_true rfl)⟩ (lv_size hl) (Nat.le_of_ble_eq_true rfl) ⟨(Nat.le_of_ble_eq_true rfl), (Nat.le_of_ble_eq_true rfl)⟩ rfl dX7_spreadHigh_15 (fun H locs hW => ?_)
      refine W.eq (g2 := F0 m 18 ls [.int x8, .long (σ1.2 q2 x4.toNatClampNeg), .long x3]) rfl ?_
      refine lv_iload_n E.1 E.2.1 dX7_spreadHigh_18 rfl (lv_at hl 2 rfl) ?_
      obtain ⟨x11, σ10, c12, h⟩ := obn_r h
      refine c_S (As := [.int x4]) (rest := [.int x8, .long (σ1.2 q2 x4.toNatClampNeg), .long x3]) E hW (m_X7_jOf c12) kw_1110 ws_X7_jOf yo_X7_jOf ⟨rfl, rfl⟩ ⟨(Nat.le_of_ble_eq_true rfl), (Nat.le_of_ble_eq_true rfl)⟩ (lv_size hl) (Nat.le_of_ble_eq_true rfl) ⟨(Nat.le_of_ble_eq_true rfl), (Nat.le_of_ble_eq_true rfl)⟩ rfl dX7_spreadHigh_19 (fun H locs hW => ?_)
      refine W.eq (g2 := F0 m 22 ls [.int x11, .int x8, .long (σ1.2 q2 x4.toNatClampNeg), .long x3]) rfl ?_
      obtain ⟨x14, σ13, c15, h⟩ := obn_r h
      refine c_S (As := [.long (σ1.2 q2 x4.toNatClampNeg), .int x8, .int x11]) (rest := [.long x3]) E hW (m_X7_high c15) kw_1122 ws_X7_high yo_X7_high ⟨rfl, rfl⟩ ⟨(Nat.le_of_ble_eq_true rfl), (Nat.le_of_ble_eq_true rfl)⟩ (lv_size hl) (Nat.le_of_ble_eq_true rfl) ⟨(Nat.le_of_ble_eq_true rfl), (Nat.le_of_ble_eq_true rfl)⟩ rfl dX7_spreadHigh_22 (fun H locs hW => ?_)
      refine W.eq (g2 := F0 m 25 ls [.long x14, .long x3]) rfl ?_
      refine lv_ladd E.1 E.2.1 dX7_spreadHigh_25 ?_
      refine lv_topl (fun x16 ex16 => ?_)
      have h := bnd_r ex16 h
      refine lv_lstore_n (lv' := [(1, .long x16), (0, .ref (G.2.2.2 + q2)), (3, .int x4)]) E.1 E.2.1 dX7_spreadHigh_26 rfl hl (by decide) rfl (fun ls hl => ?_)
      obtain ⟨x17, ex17⟩ : ∃ y : Int32, y = x4 + (1 : Int32) := ⟨_, rfl⟩
      have h := bnd_r ex17 h
      refine lv_iinc (v := x17) (lv' := [(3, .int x17), (1, .long x16), (0, .ref (G.2.2.2 + q2))]) E.1 E.2.1 dX7_spreadHigh_27 hl (k := 2) rfl (by rw [ex17]; rfl) (by decide) rfl (fun ls hl => ?_)
      refine lv_goto (tgt := 4) E.1 E.2.1 dX7_spreadHigh_30 (by decide) ?_
      exact ih _ _ _ _ _ _ _ h hW (lv_sub hl [2, 1, 0] rfl)
set_option maxHeartbeats 4000000 in
set_option maxRecDepth 100000 in
theorem m_X7_spreadHigh {l : Launch} {G : GP} {sz : Nat} {q0 : Nat} {σ σ0 : St} {r0 : Int64} (h : f_X7_spreadHigh q0 σ = some (r0, σ0)) : Met l yX7_spreadHigh [.code yX7_spreadHigh cX7_spreadHigh 4 (some .long)] ({ frames := 3, cells := 0, slots := 0, locals := 69 } : Room) (va_Pc [.ref (G.2.2.2 + q0)] (PreC G skR sz σ)) (QO (PoC G skR σ0) (Aw G.2.2.2 skR.1 sz) (some (.long r0))) 0 0 (Aw G.2.2.2 skR.1 sz) := by
  refine mkMet (by decide +kernel) (Nat.le_of_ble_eq_true rfl) skR_ok ?_
  intro p e s m below meth c ls E hW hl hr hlk
  have hl : lv_has ls 4 [(0, .ref (G.2.2.2 + q0))] := hl
  generalize Aw G.2.2.2 skR.1 s.heap.size = A0 at E hW ⊢
  generalize ([.ref (G.2.2.2 + q0)] : List Value).toArray = args
  unfold f_X7_spreadHigh at h
  refine lv_lconst (v := (0 : Int64)) E.1 E.2.1 dX7_spreadHigh_0 (by decide) ?_
  refine lv_lstore_n (lv' := [(1, .long (0 : Int64)), (0, .ref (G.2.2.2 + q0))]) E.1 E.2.1 dX7_spreadHigh_1 rfl hl (by decide) rfl (fun ls hl => ?_)
  refine lv_iconst (v := (0 : Int32)) E.1 E.2.1 dX7_spreadHigh_2 (by decide) ?_
  refine lv_istore_n (lv' := [(3, .int (0 : Int32)), (1, .long (0 : Int64)), (0, .ref (G.2.2.2 + q0))]) E.1 E.2.1 dX7_spreadHigh_3 rfl hl (by decide) rfl (fun ls hl => ?_)
  refine L_X7_spreadHigh_4 E hr hlk _ _ _ _ _ _ _ _ h hW (lv_sub hl [2, 1, 0] rfl)
set_option maxHeartbeats 4000000 in
set_option maxRecDepth 100000 in
theorem L_X7_isSmall_4 {p : Program} {l : Launch} {e : Env} {s : State} {m : MethodId} {args : Array Value} {below : List Frame} {meth : Method} {c : Code} {G : GP} {A0 : Nat → Prop} {σ0 : St} {r0 : Int32} (E : En p m c s cX7_isSmall 3 yX7_isSmall.cls G A0) (hr : meth.sig.returnType = (some .boolean)) (hlk : meth.locks = false) : ∀ (n5 : Nat) (q2 : Nat) (x3 : Int32) (x4 : Int32) (σ1 : St) (H : Heap) (locs : List Loc) (ls : Array Slot), f_X7_isSmall_L4 n5 q2 x3 x4 σ1 = some (r0, σ0) → Wo G skR A0 s σ1 H locs → lv_has ls 3 [(0, .ref (G.2.2.2 + q2)), (1, .int x3), (2, .int x4)] → W p l e ({ frames := 0, cells := 0, slots := 0, locals := 0 } : Room) s m args below meth c H locs 0 0 (MQ below (QO (PoC G skR σ0) A0 (some (.int r0))) args s 0 0 A0) (F0 m 4 ls []) := by
  intro n5
  induction n5 with
  | zero =>
    intro q2 x3 x4 σ1 H locs ls h hW hl
    rw [f_X7_isSmall_L4] at h
    cases h
  | succ n5 ih =>
    intro q2 x3 x4 σ1 H locs ls h hW hl
    rw [f_X7_isSmall_L4] at h
    refine lv_iload_n E.1 E.2.1 dX7_isSmall_4 rfl (lv_at hl 2 rfl) ?_
    refine lv_bipush (v := (12 : Int32)) E.1 E.2.1 dX7_isSmall_5 (by decide) ?_
    refine lv_icmp_ge (tgt := 44) E.1 E.2.1 dX7_isSmall_7 (by decide) (fun g => ?_) (fun g => ?_)
    · have h := ifp h g
      refine lv_iload_n E.1 E.2.1 dX7_isSmall_44 rfl (lv_at hl 1 rfl) ?_
      obtain ⟨g6, h⟩ := gd_r h
      exact e_z E hW hr hlk g6 h dX7_isSmall_45
    · have h := ifn h g
      refine lv_iload_n E.1 E.2.1 dX7_isSmall_10 rfl (lv_at hl 1 rfl) ?_
      refine lv_aload_n E.1 E.2.1 dX7_isSmall_11 rfl (lv_at hl 0 rfl) ?_
      refine lv_iload_n E.1 E.2.1 dX7_isSmall_12 rfl (lv_at hl 2 rfl) ?_
      obtain ⟨g7, h⟩ := gd_r h
      refine r_lald E hW (pr_eq g7.1) g7.2 dX7_isSmall_13 ?_
      refine lv_ldc2 (v := (-100000000 : Int64)) E.1 E.2.1 E.2.2.2.1 (E.wd kw_1134) dX7_isSmall_14 ?_
      obtain ⟨J12, eJ12, h⟩ := bnd_x h
      have hJ12 : ∀ (q9 : Nat) (x10 : Int32) (x11 : Int32) (σ8 : St) (H : Heap) (locs : List Loc) (ls : Array Slot), J12 q9 x10 x11 σ8 = some (r0, σ0) → Wo G skR A0 s σ8 H locs → lv_has ls 3 [(0, .ref (G.2.2.2 + q9)), (2, .int x10)] → W p l e ({ frames := 0, cells := 0, slots := 0, locals := 0 } : Room) s m args below meth c H locs 0 0 (MQ below (QO (PoC G skR σ0) A0 (some (.int r0))) args s 0 0 A0) (F0 m 35 ls [.int x11]) := by
        intro q9 x10 x11 σ8 H locs ls h hW hl
        have h := jr4 eJ12 h
        refine lv_iconst (v := (0 : Int32)) E.1 E.2.1 dX7_isSmall_35 (by decide) ?_
        refine lv_iand E.1 E.2.1 dX7_isSmall_36 ?_
        refine lv_topi (fun x13 ex13 => ?_)
        have h := bnd_r ex13 h
        refine lv_istore_n (lv' := [(1, .int x13), (0, .ref (G.2.2.2 + q9)), (2, .int x10)]) E.1 E.2.1 dX7_isSmall_37 rfl hl (by decide) rfl (fun ls hl => ?_)
        obtain ⟨x14, ex14⟩ : ∃ y : Int32, y = x10 + (1 : Int32) := ⟨_, rfl⟩
        have h := bnd_r ex14 h
        refine lv_iinc (v := x14) (lv' := [(2, .int x14), (1, .int x13), (0, .ref (G.2.2.2 + q9))]) E.1 E.2.1 dX7_isSmall_38 hl (k := 2) rfl (by rw [ex14]; rfl) (by decide) rfl (fun ls hl => ?_)
        refine lv_goto (tgt := 4) E.1 E.2.1 dX7_isSmall_41 (by decide) ?_
        exact ih _ _ _ _ _ _ _ h hW (lv_sub hl [2, 1, 0] rfl)
      refine r_lc_lt E dX7_isSmall_17 dX7_isSmall_18 (tgt := 35) (by decide) (fun g => ?_) (fun g => ?_)
      · have h := ifp h g
        exact hJ12 _ _ _ _ _ _ _ h hW (lv_sub hl [0, 2] rfl)
      · have h := ifn h g
        refine lv_aload_n E.1 E.2.1 dX7_isSmall_21 rfl (lv_at hl 0 rfl) ?_
        refine lv_iload_n E.1 E.2.1 dX7_isSmall_22 rfl (lv_at hl 2 rfl) ?_
        refine r_lald E hW (pr_eq g7.1) g7.2 dX7_isSmall_23 ?_
        refine lv_ldc2 (v := (100000000 : Int64)) E.1 E.2.1 E.2.2.2.1 (E.wd kw_1135) dX7_isSmall_24 ?_
        refine r_lc_gt E dX7_isSmall_27 dX7_isSmall_28 (tgt := 35) (by decide) (fun g => ?_) (fun g => ?_)
        · have h := ifp h g
          exact hJ12 _ _ _ _ _ _ _ h hW (lv_sub hl [0, 2] rfl)
        · have h := ifn h g
          refine lv_iconst (v := (1 : Int32)) E.1 E.2.1 dX7_isSmall_31 (by decide) ?_
          refine lv_goto (tgt := 36) E.1 E.2.1 dX7_isSmall_32 (by decide) ?_
          refine lv_iand E.1 E.2.1 dX7_isSmall_36 ?_
          refine lv_topi (fun x15 ex15 => ?_)
          have h := bnd_r ex15 h
          refine lv_istore_n (lv' := [(1, .int x15), (0, .ref (G.2.2.2 + q2)), (2, .int x4)]) E.1 E.2.1 dX7_isSmall_37 rfl hl (by decide) rfl (fun ls hl => ?_)
          obtain ⟨x16, ex16⟩ : ∃ y : Int32, y = x4 + (1 : Int32) := ⟨_, rfl⟩
          have h := bnd_r ex16 h
          refine lv_iinc (v := x16) (lv' := [(2, .int x16), (1, .int x15), (0, .ref (G.2.2.2 + q2))]) E.1 E.2.1 dX7_isSmall_38 hl (k := 2) rfl (by rw [ex16]; rfl) (by decide) rfl (fun ls hl => ?_)
          refine lv_goto (tgt := 4) E.1 E.2.1 dX7_isSmall_41 (by decide) ?_
          exact ih _ _ _ _ _ _ _ h hW (lv_sub hl [2, 1, 0] rfl)
set_option maxHeartbeats 4000000 in
set_option maxRecDepth 100000 in
theorem m_X7_isSmall {l : Launch} {G : GP} {sz : Nat} {q0 : Nat} {σ σ0 : St} {r0 : Int32} (h : f_X7_isSmall q0 σ = some (r0, σ0)) : Met l yX7_isSmall [.code yX7_isSmall cX7_isSmall 3 (some .boolean)] ({ frames := 0, cells := 0, slots := 0, locals := 0 } : Room) (va_Pc [.ref (G.2.2.2 + q0)] (PreC G skR sz σ)) (QO (PoC G skR σ0) (Aw G.2.2.2 skR.1 sz) (some (.int r0))) 0 0 (Aw G.2.2.2 skR.1 sz) := by
  refine mkMet (by decide +kernel) (Nat.le_of_ble_eq_true rfl) skR_ok ?_
  intro p e s m below meth c ls E hW hl hr hlk
  have hl : lv_has ls 3 [(0, .ref (G.2.2.2 + q0))] := hl
  generalize Aw G.2.2.2 skR.1 s.heap.size = A0 at E hW ⊢
  generalize ([.ref (G.2.2.2 + q0)] : List Value).toArray = args
  unfold f_X7_isSmall at h
  refine lv_iconst (v := (1 : Int32)) E.1 E.2.1 dX7_isSmall_0 (by decide) ?_
  refine lv_istore_n (lv' := [(1, .int (1 : Int32)), (0, .ref (G.2.2.2 + q0))]) E.1 E.2.1 dX7_isSmall_1 rfl hl (by decide) rfl (fun ls hl => ?_)
  refine lv_iconst (v := (0 : Int32)) E.1 E.2.1 dX7_isSmall_2 (by decide) ?_
  refine lv_istore_n (lv' := [(2, .int (0 : Int32)), (1, .int (1 : Int32)), (0, .ref (G.2.2.2 + q0))]) E.1 E.2.1 dX7_isSmall_3 rfl hl (by decide) rfl (fun ls hl => ?_)
  refine L_X7_isSmall_4 E hr hlk _ _ _ _ _ _ _ _ h hW (lv_sub hl [2, 1, 0] rfl)
set_option maxHeartbeats 4000000 in
set_option maxRecDepth 100000 in
theorem m_X7_isWithin {l : Launch} {G : GP} {sz : Nat} {q0 : Nat} {σ σ0 : St} {r0 : Int32} (h : f_X7_isWithin q0 σ = some (r0, σ0)) : Met l yX7_isWithin [.code yX7_isWithin cX7_isWithin 1 (some .boolean)] ({ frames := 4, cells := 0, slots := 0, locals := 92 } : Room) (va_Pc [.ref (G.2.2.2 + q0)] (PreC G skR sz σ)) (QO (PoC G skR σ0) (Aw G.2.2.2 skR.1 sz) (some (.int r0))) 0 0 (Aw G.2.2.2 skR.1 sz) := by
  refine mkMet (by decide +kernel) (Nat.le_of_ble_eq_true rfl) skR_ok ?_
  intro p e s m below meth c ls E hW hl hr hlk
  have hl : lv_has ls 1 [(0, .ref (G.2.2.2 + q0))] := hl
  generalize Aw G.2.2.2 skR.1 s.heap.size = A0 at E hW ⊢
  generalize ([.ref (G.2.2.2 + q0)] : List Value).toArray = args
  unfold f_X7_isWithin at h
  refine lv_aload_n E.1 E.2.1 dX7_isWithin_0 rfl (lv_at hl 0 rfl) ?_
  obtain ⟨x2, σ1, c3, h⟩ := obn_r h
  refine c_S (As := [.ref (G.2.2.2 + q0)]) (rest := []) E hW (m_X7_spreadLow c3) kw_1158 ws_X7_spreadLow yo_X7_spreadLow ⟨rfl, rfl⟩ ⟨(Nat.le_of_ble_eq_true rfl), (Nat.le_of_ble_eq_true rfl)⟩ (lv_size hl) (Nat.le_of_ble_eq_true rfl) ⟨(Nat.le_of_ble_eq_true rfl), (Nat.le_of_ble_eq_true rfl)⟩ rfl dX7_isWithin_1 (fun H locs hW => ?_)
  refine W.eq (g2 := F0 m 4 ls [.long x2]) rfl ?_
  refine lv_aload_n E.1 E.2.1 dX7_isWithin_4 rfl (lv_at hl 0 rfl) ?_
  refine lv_bipush (v := (10 : Int32)) E.1 E.2.1 dX7_isWithin_5 (by decide) ?_
  obtain ⟨g4, h⟩ := gd_r h
  refine r_lald E hW (pr_eq g4.1) g4.2 dX7_isWithin_7 ?_
  refine lv_ladd E.1 E.2.1 dX7_isWithin_8 ?_
  refine lv_ldc2 (v := (-1000 : Int64)) E.1 E.2.1 E.2.2.2.1 (E.wd kw_1161) dX7_isWithin_9 ?_
  refine r_lc_lt E dX7_isWithin_12 dX7_isWithin_13 (tgt := 36) (by decide) (fun g => ?_) (fun g => ?_)
  · have h := ifp h g
    refine lv_iconst (v := (0 : Int32)) E.1 E.2.1 dX7_isWithin_36 (by decide) ?_
    exact e_z E hW hr hlk (by decide) h dX7_isWithin_37
  · have h := ifn h g
    refine lv_aload_n E.1 E.2.1 dX7_isWithin_16 rfl (lv_at hl 0 rfl) ?_
    obtain ⟨x6, σ5, c7, h⟩ := obn_r h
    refine c_S (As := [.ref (G.2.2.2 + q0)]) (rest := []) E hW (m_X7_spreadHigh c7) kw_1162 ws_X7_spreadHigh yo_X7_spreadHigh ⟨rfl, rfl⟩ ⟨(Nat.le_of_ble_eq_true rfl), (Nat.le_of_ble_eq_true rfl)⟩ (lv_size hl) (Nat.le_of_ble_eq_true rfl) ⟨(Nat.le_of_ble_eq_true rfl), (Nat.le_of_ble_eq_true rfl)⟩ rfl dX7_isWithin_17 (fun H locs hW => ?_)
    refine W.eq (g2 := F0 m 20 ls [.long x6]) rfl ?_
    refine lv_aload_n E.1 E.2.1 dX7_isWithin_20 rfl (lv_at hl 0 rfl) ?_
    refine lv_bipush (v := (11 : Int32)) E.1 E.2.1 dX7_isWithin_21 (by decide) ?_
    obtain ⟨g8, h⟩ := gd_r h
    refine r_lald E hW (pr_eq g8.1) g8.2 dX7_isWithin_23 ?_
    refine lv_ladd E.1 E.2.1 dX7_isWithin_24 ?_
    refine lv_ldc2 (v := (1000 : Int64)) E.1 E.2.1 E.2.2.2.1 (E.wd kw_1096) dX7_isWithin_25 ?_
    refine r_lc_gt E dX7_isWithin_28 dX7_isWithin_29 (tgt := 36) (by decide) (fun g => ?_) (fun g => ?_)
    · have h := ifp h g
      refine lv_iconst (v := (0 : Int32)) E.1 E.2.1 dX7_isWithin_36 (by decide) ?_
      exact e_z E hW hr hlk (by decide) h dX7_isWithin_37
    · have h := ifn h g
      refine lv_iconst (v := (1 : Int32)) E.1 E.2.1 dX7_isWithin_32 (by decide) ?_
      refine lv_goto (tgt := 37) E.1 E.2.1 dX7_isWithin_33 (by decide) ?_
      exact e_z E hW hr hlk (by decide) h dX7_isWithin_37
set_option maxHeartbeats 4000000 in
set_option maxRecDepth 100000 in
theorem L_X7_sumOf_49 {p : Program} {l : Launch} {e : Env} {s : State} {m : MethodId} {args : Array Value} {below : List Frame} {meth : Method} {c : Code} {G : GP} {A0 : Nat → Prop} {σ0 : St} {r0 : Int32} {K78 : Nat → Int64 → Int64 → St → Option (Int32 × St)} (E : En p m c s cX7_sumOf 9 yX7_sumOf.cls G A0) (hr : meth.sig.returnType = (some .boolean)) (hlk : meth.locks = false) (hK78 : ∀ (q31 : Nat) (x32 : Int64) (x33 : Int64) (σ30 : St) (H : Heap) (locs : List Loc) (ls : Array Slot), K78 q31 x32 x33 σ30 = some (r0, σ0) → Wo G skR A0 s σ30 H locs → lv_has ls 9 [(3, .ref (G.2.2.2 + q31)), (4, .long x32), (6, .long x33)] → W p l e ({ frames := 1, cells := 0, slots := 0, locals := 22 } : Room) s m args below meth c H locs 0 0 (MQ below (QO (PoC G skR σ0) A0 (some (.int r0))) args s 0 0 A0) (F0 m 78 ls [])) : ∀ (n34 : Nat) (q23 : Nat) (q24 : Nat) (x25 : Int32) (q26 : Nat) (x27 : Int64) (x28 : Int64) (x29 : Int32) (σ22 : St) (H : Heap) (locs : List Loc) (ls : Array Slot), f_X7_sumOf_L49 K78 n34 q23 q24 x25 q26 x27 x28 x29 σ22 = some (r0, σ0) → Wo G skR A0 s σ22 H locs → lv_has ls 9 [(0, .ref (G.2.2.2 + q23)), (1, .ref (G.2.2.2 + q24)), (2, .int x25), (3, .ref (G.2.2.2 + q26)), (4, .long x27), (6, .long x28), (8, .int x29)] → W p l e ({ frames := 1, cells := 0, slots := 0, locals := 22 } : Room) s m args below meth c H locs 0 0 (MQ below (QO (PoC G skR σ0) A0 (some (.int r0))) args s 0 0 A0) (F0 m 49 ls []) := by
  intro n34
  induction n34 with
  | zero =>
    intro q23 q24 x25 q26 x27 x28 x29 σ22 H locs ls h hW hl
    rw [f_X7_sumOf_L49] at h
    cases h
  | succ n34 ih =>
    intro q23 q24 x25 q26 x27 x28 x29 σ22 H locs ls h hW hl
    rw [f_X7_sumOf_L49] at h
    refine lv_iload E.1 E.2.1 dX7_sumOf_49 (lv_at hl 6 rfl) ?_
    refine lv_bipush (v := (10 : Int32)) E.1 E.2.1 dX7_sumOf_51 (by decide) ?_
    refine lv_icmp_ge (tgt := 78) E.1 E.2.1 dX7_sumOf_53 (by decide) (fun g => ?_) (fun g => ?_)
    · have h := ifp h g
      exact hK78 _ _ _ _ _ _ _ h hW (lv_sub hl [3, 4, 5] rfl)
    · have h := ifn h g
      refine lv_aload_n E.1 E.2.1 dX7_sumOf_56 rfl (lv_at hl 3 rfl) ?_
      refine lv_iload E.1 E.2.1 dX7_sumOf_57 (lv_at hl 6 rfl) ?_
      refine lv_aload_n E.1 E.2.1 dX7_sumOf_59 rfl (lv_at hl 0 rfl) ?_
      refine lv_iload E.1 E.2.1 dX7_sumOf_60 (lv_at hl 6 rfl) ?_
      obtain ⟨g35, h⟩ := gd_r h
      refine r_lald E hW (pr_eq g35.1) g35.2 dX7_sumOf_62 ?_
      refine lv_iload_n E.1 E.2.1 dX7_sumOf_63 rfl (lv_at hl 2 rfl) ?_
      refine lv_i2l E.1 E.2.1 dX7_sumOf_64 rfl ?_
      refine lv_aload_n E.1 E.2.1 dX7_sumOf_65 rfl (lv_at hl 1 rfl) ?_
      refine lv_iload E.1 E.2.1 dX7_sumOf_66 (lv_at hl 6 rfl) ?_
      obtain ⟨g36, h⟩ := gd_r h
      refine r_lald E hW (pr_eq g36.1) g36.2 dX7_sumOf_68 ?_
      refine lv_lmul E.1 E.2.1 dX7_sumOf_69 ?_
      refine lv_ladd E.1 E.2.1 dX7_sumOf_70 ?_
      obtain ⟨g37, h⟩ := gd_r h
      refine r_last E hW (pr_eq g37.1) g37.2 dX7_sumOf_71 (fun σ38 H locs eσ38 hW => ?_)
      have h := bnd_r eσ38 h
      obtain ⟨x39, ex39⟩ : ∃ y : Int32, y = x29 + (1 : Int32) := ⟨_, rfl⟩
      have h := bnd_r ex39 h
      refine lv_iinc (v := x39) (lv' := [(8, .int x39), (0, .ref (G.2.2.2 + q23)), (1, .ref (G.2.2.2 + q24)), (2, .int x25), (3, .ref (G.2.2.2 + q26)), (4, .long x27), (6, .long x28)]) E.1 E.2.1 dX7_sumOf_72 hl (k := 6) rfl (by rw [ex39]; rfl) (by decide) rfl (fun ls hl => ?_)
      refine lv_goto (tgt := 49) E.1 E.2.1 dX7_sumOf_75 (by decide) ?_
      exact ih _ _ _ _ _ _ _ _ _ _ _ h hW (lv_sub hl [1, 2, 3, 4, 5, 6, 0] rfl)
set_option maxHeartbeats 4000000 in
set_option maxRecDepth 100000 in
theorem m_X7_sumOf {l : Launch} {G : GP} {sz : Nat} {q0 : Nat} {q1 : Nat} {a2 : Int32} {q3 : Nat} {σ σ0 : St} {r0 : Int32} (h : f_X7_sumOf q0 q1 a2 q3 σ = some (r0, σ0)) : Met l yX7_sumOf [.code yX7_sumOf cX7_sumOf 9 (some .boolean)] ({ frames := 1, cells := 0, slots := 0, locals := 22 } : Room) (va_Pc [.ref (G.2.2.2 + q0), .ref (G.2.2.2 + q1), .int a2, .ref (G.2.2.2 + q3)] (PreC G skR sz σ)) (QO (PoC G skR σ0) (Aw G.2.2.2 skR.1 sz) (some (.int r0))) 0 0 (Aw G.2.2.2 skR.1 sz) := by
  refine mkMet (by decide +kernel) (Nat.le_of_ble_eq_true rfl) skR_ok ?_
  intro p e s m below meth c ls E hW hl hr hlk
  have hl : lv_has ls 9 [(0, .ref (G.2.2.2 + q0)), (1, .ref (G.2.2.2 + q1)), (2, .int a2), (3, .ref (G.2.2.2 + q3))] := hl
  generalize Aw G.2.2.2 skR.1 s.heap.size = A0 at E hW ⊢
  generalize ([.ref (G.2.2.2 + q0), .ref (G.2.2.2 + q1), .int a2, .ref (G.2.2.2 + q3)] : List Value).toArray = args
  unfold f_X7_sumOf at h
  refine lv_aload_n E.1 E.2.1 dX7_sumOf_0 rfl (lv_at hl 0 rfl) ?_
  refine lv_bipush (v := (10 : Int32)) E.1 E.2.1 dX7_sumOf_1 (by decide) ?_
  obtain ⟨g1, h⟩ := gd_r h
  refine r_lald E hW (pr_eq g1.1) g1.2 dX7_sumOf_3 ?_
  refine lv_iload_n E.1 E.2.1 dX7_sumOf_4 rfl (lv_at hl 2 rfl) ?_
  obtain ⟨J9, eJ9, h⟩ := bnd_x h
  have hJ9 : ∀ (q3 : Nat) (q4 : Nat) (x5 : Int32) (q6 : Nat) (x7 : Int64) (x8 : Int64) (σ2 : St) (H : Heap) (locs : List Loc) (ls : Array Slot), J9 q3 q4 x5 q6 x7 x8 σ2 = some (r0, σ0) → Wo G skR A0 s σ2 H locs → lv_has ls 9 [(0, .ref (G.2.2.2 + q3)), (1, .ref (G.2.2.2 + q4)), (2, .int x5), (3, .ref (G.2.2.2 + q6))] → W p l e ({ frames := 1, cells := 0, slots := 0, locals := 22 } : Room) s m args below meth c H locs 0 0 (MQ below (QO (PoC G skR σ0) A0 (some (.int r0))) args s 0 0 A0) (F0 m 20 ls [.long x7, .long x8]) := by
    intro q3 q4 x5 q6 x7 x8 σ2 H locs ls h hW hl
    have h := jr7 eJ9 h
    refine lv_ladd E.1 E.2.1 dX7_sumOf_20 ?_
    refine lv_topl (fun x10 ex10 => ?_)
    have h := bnd_r ex10 h
    refine lv_lstore (lv' := [(4, .long x10), (0, .ref (G.2.2.2 + q3)), (1, .ref (G.2.2.2 + q4)), (2, .int x5), (3, .ref (G.2.2.2 + q6))]) E.1 E.2.1 dX7_sumOf_21 hl (by decide) rfl (fun ls hl => ?_)
    refine lv_aload_n E.1 E.2.1 dX7_sumOf_23 rfl (lv_at hl 1 rfl) ?_
    refine lv_bipush (v := (11 : Int32)) E.1 E.2.1 dX7_sumOf_24 (by decide) ?_
    obtain ⟨g11, h⟩ := gd_r h
    refine r_lald E hW (pr_eq g11.1) g11.2 dX7_sumOf_26 ?_
    refine lv_iload_n E.1 E.2.1 dX7_sumOf_27 rfl (lv_at hl 3 rfl) ?_
    obtain ⟨J20, eJ20, h⟩ := bnd_x h
    have hJ20 : ∀ (q13 : Nat) (q14 : Nat) (x15 : Int32) (q16 : Nat) (x17 : Int64) (x18 : Int64) (x19 : Int64) (σ12 : St) (H : Heap) (locs : List Loc) (ls : Array Slot), J20 q13 q14 x15 q16 x17 x18 x19 σ12 = some (r0, σ0) → Wo G skR A0 s σ12 H locs → lv_has ls 9 [(0, .ref (G.2.2.2 + q13)), (1, .ref (G.2.2.2 + q14)), (2, .int x15), (3, .ref (G.2.2.2 + q16)), (4, .long x17)] → W p l e ({ frames := 1, cells := 0, slots := 0, locals := 22 } : Room) s m args below meth c H locs 0 0 (MQ below (QO (PoC G skR σ0) A0 (some (.int r0))) args s 0 0 A0) (F0 m 43 ls [.long x18, .long x19]) := by
      intro q13 q14 x15 q16 x17 x18 x19 σ12 H locs ls h hW hl
      have h := jr8 eJ20 h
      refine lv_ladd E.1 E.2.1 dX7_sumOf_43 ?_
      refine lv_topl (fun x21 ex21 => ?_)
      have h := bnd_r ex21 h
      refine lv_lstore (lv' := [(6, .long x21), (0, .ref (G.2.2.2 + q13)), (1, .ref (G.2.2.2 + q14)), (2, .int x15), (3, .ref (G.2.2.2 + q16)), (4, .long x17)]) E.1 E.2.1 dX7_sumOf_44 hl (by decide) rfl (fun ls hl => ?_)
      refine lv_iconst (v := (0 : Int32)) E.1 E.2.1 dX7_sumOf_46 (by decide) ?_
      refine lv_istore (lv' := [(8, .int (0 : Int32)), (6, .long x21), (0, .ref (G.2.2.2 + q13)), (1, .ref (G.2.2.2 + q14)), (2, .int x15), (3, .ref (G.2.2.2 + q16)), (4, .long x17)]) E.1 E.2.1 dX7_sumOf_47 hl (by decide) rfl (fun ls hl => ?_)
      refine L_X7_sumOf_49 E hr hlk ?_ _ _ _ _ _ _ _ _ _ _ _ _ h hW (lv_sub hl [2, 3, 4, 5, 6, 1, 0] rfl)
      · intro q31 x32 x33 σ30 H locs ls h hW hl
        refine lv_aload_n E.1 E.2.1 dX7_sumOf_78 rfl (lv_at hl 0 rfl) ?_
        refine lv_bipush (v := (10 : Int32)) E.1 E.2.1 dX7_sumOf_79 (by decide) ?_
        refine lv_lload E.1 E.2.1 dX7_sumOf_81 (lv_at hl 1 rfl) ?_
        obtain ⟨g40, h⟩ := gd_r h
        refine r_last E hW (pr_eq g40.1) g40.2 dX7_sumOf_83 (fun σ41 H locs eσ41 hW => ?_)
        have h := bnd_r eσ41 h
        refine lv_aload_n E.1 E.2.1 dX7_sumOf_84 rfl (lv_at hl 0 rfl) ?_
        refine lv_bipush (v := (11 : Int32)) E.1 E.2.1 dX7_sumOf_85 (by decide) ?_
        refine lv_lload E.1 E.2.1 dX7_sumOf_87 (lv_at hl 2 rfl) ?_
        obtain ⟨g42, h⟩ := gd_r h
        refine r_last E hW (pr_eq g42.1) g42.2 dX7_sumOf_89 (fun σ43 H locs eσ43 hW => ?_)
        have h := bnd_r eσ43 h
        refine lv_aload_n E.1 E.2.1 dX7_sumOf_90 rfl (lv_at hl 0 rfl) ?_
        obtain ⟨x45, σ44, c46, h⟩ := obn_r h
        refine c_S (As := [.ref (G.2.2.2 + q31)]) (rest := []) E hW (m_X7_isSmall c46) kw_1131 ws_X7_isSmall yo_X7_isSmall ⟨rfl, rfl⟩ ⟨(Nat.le_of_ble_eq_true rfl), (Nat.le_of_ble_eq_true rfl)⟩ (lv_size hl) (Nat.le_of_ble_eq_true rfl) ⟨(Nat.le_of_ble_eq_true rfl), (Nat.le_of_ble_eq_true rfl)⟩ rfl dX7_sumOf_91 (fun H locs hW => ?_)
        refine W.eq (g2 := F0 m 94 ls [.int x45]) rfl ?_
        obtain ⟨g47, h⟩ := gd_r h
        exact e_z E hW hr hlk g47 h dX7_sumOf_94
    refine lv_if_le (tgt := 38) E.1 E.2.1 dX7_sumOf_28 (by decide) (fun g => ?_) (fun g => ?_)
    · have h := ifp h g
      refine lv_aload_n E.1 E.2.1 dX7_sumOf_38 rfl (lv_at hl 2 rfl) ?_
      refine lv_bipush (v := (10 : Int32)) E.1 E.2.1 dX7_sumOf_39 (by decide) ?_
      obtain ⟨g48, h⟩ := gd_r h
      refine r_lald E hW (pr_eq g48.1) g48.2 dX7_sumOf_41 ?_
      refine lv_lneg E.1 E.2.1 dX7_sumOf_42 ?_
      exact hJ20 _ _ _ _ _ _ _ _ _ _ _ h hW (lv_sub hl [1, 2, 3, 4, 0] rfl)
    · have h := ifn h g
      refine lv_aload_n E.1 E.2.1 dX7_sumOf_31 rfl (lv_at hl 2 rfl) ?_
      refine lv_bipush (v := (11 : Int32)) E.1 E.2.1 dX7_sumOf_32 (by decide) ?_
      obtain ⟨g49, h⟩ := gd_r h
      refine r_lald E hW (pr_eq g49.1) g49.2 dX7_sumOf_34 ?_
      refine lv_goto (tgt := 43) E.1 E.2.1 dX7_sumOf_35 (by decide) ?_
      exact hJ20 _ _ _ _ _ _ _ _ _ _ _ h hW (lv_sub hl [1, 2, 3, 4, 0] rfl)
  refine lv_if_le (tgt := 15) E.1 E.2.1 dX7_sumOf_5 (by decide) (fun g => ?_) (fun g => ?_)
  · have h := ifp h g
    refine lv_aload_n E.1 E.2.1 dX7_sumOf_15 rfl (lv_at hl 1 rfl) ?_
    refine lv_bipush (v := (11 : Int32)) E.1 E.2.1 dX7_sumOf_16 (by decide) ?_
    obtain ⟨g50, h⟩ := gd_r h
    refine r_lald E hW (pr_eq g50.1) g50.2 dX7_sumOf_18 ?_
    refine lv_lneg E.1 E.2.1 dX7_sumOf_19 ?_
    exact hJ9 _ _ _ _ _ _ _ _ _ _ h hW (lv_sub hl [0, 1, 2, 3] rfl)
  · have h := ifn h g
    refine lv_aload_n E.1 E.2.1 dX7_sumOf_8 rfl (lv_at hl 1 rfl) ?_
    refine lv_bipush (v := (10 : Int32)) E.1 E.2.1 dX7_sumOf_9 (by decide) ?_
    obtain ⟨g51, h⟩ := gd_r h
    refine r_lald E hW (pr_eq g51.1) g51.2 dX7_sumOf_11 ?_
    refine lv_goto (tgt := 20) E.1 E.2.1 dX7_sumOf_12 (by decide) ?_
    exact hJ9 _ _ _ _ _ _ _ _ _ _ h hW (lv_sub hl [0, 1, 2, 3] rfl)
set_option maxHeartbeats 4000000 in
set_option maxRecDepth 100000 in
theorem m_X7_leastProduct {l : Launch} {G : GP} {sz : Nat} {a0 : Int64} {a2 : Int64} {a4 : Int64} {a6 : Int64} {σ σ0 : St} {r0 : Int64} (h : f_X7_leastProduct a0 a2 a4 a6 σ = some (r0, σ0)) : Met l yX7_leastProduct [.code yX7_leastProduct cX7_leastProduct 8 (some .long)] ({ frames := 1, cells := 0, slots := 0, locals := 23 } : Room) (va_Pc [.long a0, .long a2, .long a4, .long a6] (PreC G skR sz σ)) (QO (PoC G skR σ0) (Aw G.2.2.2 skR.1 sz) (some (.long r0))) 0 0 (Aw G.2.2.2 skR.1 sz) := by
  refine mkMet (by decide +kernel) (Nat.le_of_ble_eq_true rfl) skR_ok ?_
  intro p e s m below meth c ls E hW hl hr hlk
  have hl : lv_has ls 8 [(0, .long a0), (2, .long a2), (4, .long a4), (6, .long a6)] := hl
  generalize Aw G.2.2.2 skR.1 s.heap.size = A0 at E hW ⊢
  generalize ([.long a0, .long a2, .long a4, .long a6] : List Value).toArray = args
  unfold f_X7_leastProduct at h
  refine lv_lload_n E.1 E.2.1 dX7_leastProduct_0 rfl (lv_at hl 0 rfl) ?_
  refine lv_lload E.1 E.2.1 dX7_leastProduct_1 (lv_at hl 2 rfl) ?_
  refine lv_lmul E.1 E.2.1 dX7_leastProduct_3 ?_
  refine lv_lload_n E.1 E.2.1 dX7_leastProduct_4 rfl (lv_at hl 0 rfl) ?_
  refine lv_lload E.1 E.2.1 dX7_leastProduct_5 (lv_at hl 3 rfl) ?_
  refine lv_lmul E.1 E.2.1 dX7_leastProduct_7 ?_
  obtain ⟨x2, σ1, c3, h⟩ := obn_r h
  refine c_S (As := [.long (a0 * a4), .long (a0 * a6)]) (rest := []) E hW (m_X7_smaller c3) kw_1116 ws_X7_smaller yo_X7_smaller ⟨rfl, rfl⟩ ⟨(Nat.le_of_ble_eq_true rfl), (Nat.le_of_ble_eq_true rfl)⟩ (lv_size hl) (Nat.le_of_ble_eq_true rfl) ⟨(Nat.le_of_ble_eq_true rfl), (Nat.le_of_ble_eq_true rfl)⟩ rfl dX7_leastProduct_8 (fun H locs hW => ?_)
  refine W.eq (g2 := F0 m 11 ls [.long x2]) rfl ?_
  refine lv_lload_n E.1 E.2.1 dX7_leastProduct_11 rfl (lv_at hl 1 rfl) ?_
  refine lv_lload E.1 E.2.1 dX7_leastProduct_12 (lv_at hl 2 rfl) ?_
  refine lv_lmul E.1 E.2.1 dX7_leastProduct_14 ?_
  refine lv_lload_n E.1 E.2.1 dX7_leastProduct_15 rfl (lv_at hl 1 rfl) ?_
  refine lv_lload E.1 E.2.1 dX7_leastProduct_16 (lv_at hl 3 rfl) ?_
  refine lv_lmul E.1 E.2.1 dX7_leastProduct_18 ?_
  obtain ⟨x5, σ4, c6, h⟩ := obn_r h
  refine c_S (As := [.long (a2 * a4), .long (a2 * a6)]) (rest := [.long x2]) E hW (m_X7_smaller c6) kw_1116 ws_X7_smaller yo_X7_smaller ⟨rfl, rfl⟩ ⟨(Nat.le_of_ble_eq_true rfl), (Nat.le_of_ble_eq_true rfl)⟩ (lv_size hl) (Nat.le_of_ble_eq_true rfl) ⟨(Nat.le_of_ble_eq_true rfl), (Nat.le_of_ble_eq_true rfl)⟩ rfl dX7_leastProduct_19 (fun H locs hW => ?_)
  refine W.eq (g2 := F0 m 22 ls [.long x5, .long x2]) rfl ?_
  obtain ⟨x8, σ7, c9, h⟩ := obn_r h
  refine c_S (As := [.long x2, .long x5]) (rest := []) E hW (m_X7_smaller c9) kw_1116 ws_X7_smaller yo_X7_smaller ⟨rfl, rfl⟩ ⟨(Nat.le_of_ble_eq_true rfl), (Nat.le_of_ble_eq_true rfl)⟩ (lv_size hl) (Nat.le_of_ble_eq_true rfl) ⟨(Nat.le_of_ble_eq_true rfl), (Nat.le_of_ble_eq_true rfl)⟩ rfl dX7_leastProduct_22 (fun H locs hW => ?_)
  refine W.eq (g2 := F0 m 25 ls [.long x8]) rfl ?_
  exact e_j E hW hr hlk h dX7_leastProduct_25
set_option maxHeartbeats 4000000 in
set_option maxRecDepth 100000 in
theorem m_X7_greatestProduct {l : Launch} {G : GP} {sz : Nat} {a0 : Int64} {a2 : Int64} {a4 : Int64} {a6 : Int64} {σ σ0 : St} {r0 : Int64} (h : f_X7_greatestProduct a0 a2 a4 a6 σ = some (r0, σ0)) : Met l yX7_greatestProduct [.code yX7_greatestProduct cX7_greatestProduct 8 (some .long)] ({ frames := 1, cells := 0, slots := 0, locals := 23 } : Room) (va_Pc [.long a0, .long a2, .long a4, .long a6] (PreC G skR sz σ)) (QO (PoC G skR σ0) (Aw G.2.2.2 skR.1 sz) (some (.long r0))) 0 0 (Aw G.2.2.2 skR.1 sz) := by
  refine mkMet (by decide +kernel) (Nat.le_of_ble_eq_true rfl) skR_ok ?_
  intro p e s m below meth c ls E hW hl hr hlk
  have hl : lv_has ls 8 [(0, .long a0), (2, .long a2), (4, .long a4), (6, .long a6)] := hl
  generalize Aw G.2.2.2 skR.1 s.heap.size = A0 at E hW ⊢
  generalize ([.long a0, .long a2, .long a4, .long a6] : List Value).toArray = args
  unfold f_X7_greatestProduct at h
  refine lv_lload_n E.1 E.2.1 dX7_greatestProduct_0 rfl (lv_at hl 0 rfl) ?_
  refine lv_lload E.1 E.2.1 dX7_greatestProduct_1 (lv_at hl 2 rfl) ?_
  refine lv_lmul E.1 E.2.1 dX7_greatestProduct_3 ?_
  refine lv_lload_n E.1 E.2.1 dX7_greatestProduct_4 rfl (lv_at hl 0 rfl) ?_
  refine lv_lload E.1 E.2.1 dX7_greatestProduct_5 (lv_at hl 3 rfl) ?_
  refine lv_lmul E.1 E.2.1 dX7_greatestProduct_7 ?_
  obtain ⟨x2, σ1, c3, h⟩ := obn_r h
  refine c_S (As := [.long (a0 * a4), .long (a0 * a6)]) (rest := []) E hW (m_X7_greater c3) kw_1128 ws_X7_greater yo_X7_greater ⟨rfl, rfl⟩ ⟨(Nat.le_of_ble_eq_true rfl), (Nat.le_of_ble_eq_true rfl)⟩ (lv_size hl) (Nat.le_of_ble_eq_true rfl) ⟨(Nat.le_of_ble_eq_true rfl), (Nat.le_of_ble_eq_true rfl)⟩ rfl dX7_greatestProduct_8 (fun H locs hW => ?_)
  refine W.eq (g2 := F0 m 11 ls [.long x2]) rfl ?_
  refine lv_lload_n E.1 E.2.1 dX7_greatestProduct_11 rfl (lv_at hl 1 rfl) ?_
  refine lv_lload E.1 E.2.1 dX7_greatestProduct_12 (lv_at hl 2 rfl) ?_
  refine lv_lmul E.1 E.2.1 dX7_greatestProduct_14 ?_
  refine lv_lload_n E.1 E.2.1 dX7_greatestProduct_15 rfl (lv_at hl 1 rfl) ?_
  refine lv_lload E.1 E.2.1 dX7_greatestProduct_16 (lv_at hl 3 rfl) ?_
  refine lv_lmul E.1 E.2.1 dX7_greatestProduct_18 ?_
  obtain ⟨x5, σ4, c6, h⟩ := obn_r h
  refine c_S (As := [.long (a2 * a4), .long (a2 * a6)]) (rest := [.long x2]) E hW (m_X7_greater c6) kw_1128 ws_X7_greater yo_X7_greater ⟨rfl, rfl⟩ ⟨(Nat.le_of_ble_eq_true rfl), (Nat.le_of_ble_eq_true rfl)⟩ (lv_size hl) (Nat.le_of_ble_eq_true rfl) ⟨(Nat.le_of_ble_eq_true rfl), (Nat.le_of_ble_eq_true rfl)⟩ rfl dX7_greatestProduct_19 (fun H locs hW => ?_)
  refine W.eq (g2 := F0 m 22 ls [.long x5, .long x2]) rfl ?_
  obtain ⟨x8, σ7, c9, h⟩ := obn_r h
  refine c_S (As := [.long x2, .long x5]) (rest := []) E hW (m_X7_greater c9) kw_1128 ws_X7_greater yo_X7_greater ⟨rfl, rfl⟩ ⟨(Nat.le_of_ble_eq_true rfl), (Nat.le_of_ble_eq_true rfl)⟩ (lv_size hl) (Nat.le_of_ble_eq_true rfl) ⟨(Nat.le_of_ble_eq_true rfl), (Nat.le_of_ble_eq_true rfl)⟩ rfl dX7_greatestProduct_22 (fun H locs hW => ?_)
  refine W.eq (g2 := F0 m 25 ls [.long x8]) rfl ?_
  exact e_j E hW hr hlk h dX7_greatestProduct_25
set_option maxHeartbeats 4000000 in
set_option maxRecDepth 100000 in
theorem L_X7_layProducts_2 {p : Program} {l : Launch} {e : Env} {s : State} {m : MethodId} {args : Array Value} {below : List Frame} {meth : Method} {c : Code} {G : GP} {A0 : Nat → Prop} {σ0 : St} {r0 : Unit} {K21 : Nat → Nat → Nat → St → Option (Unit × St)} (E : En p m c s cX7_layProducts 5 yX7_layProducts.cls G A0) (hr : meth.sig.returnType = none) (hlk : meth.locks = false) (hK21 : ∀ (q7 : Nat) (q8 : Nat) (q9 : Nat) (σ6 : St) (H : Heap) (locs : List Loc) (ls : Array Slot), K21 q7 q8 q9 σ6 = some (r0, σ0) → Wo G skR A0 s σ6 H locs → lv_has ls 5 [(0, .ref (G.2.2.2 + q7)), (1, .ref (G.2.2.2 + q8)), (2, .ref (G.2.2.2 + q9))] → W p l e ({ frames := 1, cells := 0, slots := 0, locals := 20 } : Room) s m args below meth c H locs 0 0 (MQ below (QO (PoC G skR σ0) A0 none) args s 0 0 A0) (F0 m 21 ls [])) : ∀ (n10 : Nat) (q2 : Nat) (q3 : Nat) (q4 : Nat) (x5 : Int32) (σ1 : St) (H : Heap) (locs : List Loc) (ls : Array Slot), f_X7_layProducts_L2 K21 n10 q2 q3 q4 x5 σ1 = some (r0, σ0) → Wo G skR A0 s σ1 H locs → lv_has ls 5 [(0, .ref (G.2.2.2 + q2)), (1, .ref (G.2.2.2 + q3)), (2, .ref (G.2.2.2 + q4)), (3, .int x5)] → W p l e ({ frames := 1, cells := 0, slots := 0, locals := 20 } : Room) s m args below meth c H locs 0 0 (MQ below (QO (PoC G skR σ0) A0 none) args s 0 0 A0) (F0 m 2 ls []) := by
  intro n10
  induction n10 with
  | zero =>
    intro q2 q3 q4 x5 σ1 H locs ls h hW hl
    rw [f_X7_layProducts_L2] at h
    cases h
  | succ n10 ih =>
    intro q2 q3 q4 x5 σ1 H locs ls h hW hl
    rw [f_X7_layProducts_L2] at h
    refine lv_iload_n E.1 E.2.1 dX7_layProducts_2 rfl (lv_at hl 3 rfl) ?_
    refine lv_bipush (v := (49 : Int32)) E.1 E.2.1 dX7_layProducts_3 (by decide) ?_
    refine lv_icmp_ge (tgt := 21) E.1 E.2.1 dX7_layProducts_5 (by decide) (fun g => ?_) (fun g => ?_)
    · have h := ifp h g
      exact hK21 _ _ _ _ _ _ _ h hW (lv_sub hl [0, 1, 2] rfl)
    · have h := ifn h g
      refine lv_aload_n E.1 E.2.1 dX7_layProducts_8 rfl (lv_at hl 0 rfl) ?_
      obtain ⟨g11, h⟩ := gd_r h
      refine gf_X7_28 E hW g11 dX7_layProducts_9 ?_
      refine lv_iload_n E.1 E.2.1 dX7_layProducts_12 rfl (lv_at hl 3 rfl) ?_
      refine lv_lconst (v := (0 : Int64)) E.1 E.2.1 dX7_layProducts_13 (by decide) ?_
      obtain ⟨g12, h⟩ := gd_r h
      refine r_last E hW (pr_eq g12.1) g12.2 dX7_layProducts_14 (fun σ13 H locs eσ13 hW => ?_)
      have h := bnd_r eσ13 h
      obtain ⟨x14, ex14⟩ : ∃ y : Int32, y = x5 + (1 : Int32) := ⟨_, rfl⟩
      have h := bnd_r ex14 h
      refine lv_iinc (v := x14) (lv' := [(3, .int x14), (0, .ref (G.2.2.2 + q2)), (1, .ref (G.2.2.2 + q3)), (2, .ref (G.2.2.2 + q4))]) E.1 E.2.1 dX7_layProducts_15 hl (k := 3) rfl (by rw [ex14]; rfl) (by decide) rfl (fun ls hl => ?_)
      refine lv_goto (tgt := 2) E.1 E.2.1 dX7_layProducts_18 (by decide) ?_
      exact ih _ _ _ _ _ _ _ _ h hW (lv_sub hl [1, 2, 3, 0] rfl)
set_option maxHeartbeats 4000000 in
set_option maxRecDepth 100000 in
theorem L_X7_layProducts_32 {p : Program} {l : Launch} {e : Env} {s : State} {m : MethodId} {args : Array Value} {below : List Frame} {meth : Method} {c : Code} {G : GP} {A0 : Nat → Prop} {σ0 : St} {r0 : Unit} {K85 : Nat → Nat → Nat → Int32 → St → Option (Unit × St)} (E : En p m c s cX7_layProducts 5 yX7_layProducts.cls G A0) (hr : meth.sig.returnType = none) (hlk : meth.locks = false) (hK85 : ∀ (q28 : Nat) (q29 : Nat) (q30 : Nat) (x31 : Int32) (σ27 : St) (H : Heap) (locs : List Loc) (ls : Array Slot), K85 q28 q29 q30 x31 σ27 = some (r0, σ0) → Wo G skR A0 s σ27 H locs → lv_has ls 5 [(0, .ref (G.2.2.2 + q28)), (1, .ref (G.2.2.2 + q29)), (2, .ref (G.2.2.2 + q30)), (3, .int x31)] → W p l e ({ frames := 1, cells := 0, slots := 0, locals := 20 } : Room) s m args below meth c H locs 0 0 (MQ below (QO (PoC G skR σ0) A0 none) args s 0 0 A0) (F0 m 85 ls [])) : ∀ (n32 : Nat) (q22 : Nat) (q23 : Nat) (q24 : Nat) (x25 : Int32) (x26 : Int32) (σ21 : St) (H : Heap) (locs : List Loc) (ls : Array Slot), f_X7_layProducts_L32 K85 n32 q22 q23 q24 x25 x26 σ21 = some (r0, σ0) → Wo G skR A0 s σ21 H locs → lv_has ls 5 [(0, .ref (G.2.2.2 + q22)), (1, .ref (G.2.2.2 + q23)), (2, .ref (G.2.2.2 + q24)), (3, .int x25), (4, .int x26)] → W p l e ({ frames := 1, cells := 0, slots := 0, locals := 20 } : Room) s m args below meth c H locs 0 0 (MQ below (QO (PoC G skR σ0) A0 none) args s 0 0 A0) (F0 m 32 ls []) := by
  intro n32
  induction n32 with
  | zero =>
    intro q22 q23 q24 x25 x26 σ21 H locs ls h hW hl
    rw [f_X7_layProducts_L32] at h
    cases h
  | succ n32 ih =>
    intro q22 q23 q24 x25 x26 σ21 H locs ls h hW hl
    rw [f_X7_layProducts_L32] at h
    refine lv_iload E.1 E.2.1 dX7_layProducts_32 (lv_at hl 4 rfl) ?_
    refine lv_bipush (v := (10 : Int32)) E.1 E.2.1 dX7_layProducts_34 (by decide) ?_
    refine lv_icmp_ge (tgt := 85) E.1 E.2.1 dX7_layProducts_36 (by decide) (fun g => ?_) (fun g => ?_)
    · have h := ifp h g
      exact hK85 _ _ _ _ _ _ _ _ h hW (lv_sub hl [0, 1, 2, 3] rfl)
    · have h := ifn h g
      refine lv_aload_n E.1 E.2.1 dX7_layProducts_39 rfl (lv_at hl 0 rfl) ?_
      obtain ⟨g33, h⟩ := gd_r h
      refine gf_X7_28 E hW g33 dX7_layProducts_40 ?_
      refine lv_bipush (v := (7 : Int32)) E.1 E.2.1 dX7_layProducts_43 (by decide) ?_
      refine lv_iload_n E.1 E.2.1 dX7_layProducts_45 rfl (lv_at hl 3 rfl) ?_
      obtain ⟨x35, σ34, c36, h⟩ := obn_r h
      refine c_S (As := [.int x25]) (rest := [.int (7 : Int32), .ref (G.2.2.2 + (rR q22 12))]) E hW (m_X7_iOf c36) kw_1107 ws_X7_iOf yo_X7_iOf ⟨rfl, rfl⟩ ⟨(Nat.le_of_ble_eq_true rfl), (Nat.le_of_ble_eq_true rfl)⟩ (lv_size hl) (Nat.le_of_ble_eq_true rfl) ⟨(Nat.le_of_ble_eq_true rfl), (Nat.le_of_ble_eq_true rfl)⟩ rfl dX7_layProducts_46 (fun H locs hW => ?_)
      refine W.eq (g2 := F0 m 49 ls [.int x35, .int (7 : Int32), .ref (G.2.2.2 + (rR q22 12))]) rfl ?_
      refine lv_iload E.1 E.2.1 dX7_layProducts_49 (lv_at hl 4 rfl) ?_
      obtain ⟨x38, σ37, c39, h⟩ := obn_r h
      refine c_S (As := [.int x26]) (rest := [.int x35, .int (7 : Int32), .ref (G.2.2.2 + (rR q22 12))]) E hW (m_X7_iOf c39) kw_1107 ws_X7_iOf yo_X7_iOf ⟨rfl, rfl⟩ ⟨(Nat.le_of_ble_eq_true rfl), (Nat.le_of_ble_eq_true rfl)⟩ (lv_size hl) (Nat.le_of_ble_eq_true rfl) ⟨(Nat.le_of_ble_eq_true rfl), (Nat.le_of_ble_eq_true rfl)⟩ rfl dX7_layProducts_51 (fun H locs hW => ?_)
      refine W.eq (g2 := F0 m 54 ls [.int x38, .int x35, .int (7 : Int32), .ref (G.2.2.2 + (rR q22 12))]) rfl ?_
      refine lv_iadd E.1 E.2.1 dX7_layProducts_54 ?_
      refine lv_imul E.1 E.2.1 dX7_layProducts_55 ?_
      refine lv_iload_n E.1 E.2.1 dX7_layProducts_56 rfl (lv_at hl 3 rfl) ?_
      obtain ⟨x41, σ40, c42, h⟩ := obn_r h
      refine c_S (As := [.int x25]) (rest := [.int ((7 : Int32) * (x35 + x38)), .ref (G.2.2.2 + (rR q22 12))]) E hW (m_X7_jOf c42) kw_1110 ws_X7_jOf yo_X7_jOf ⟨rfl, rfl⟩ ⟨(Nat.le_of_ble_eq_true rfl), (Nat.le_of_ble_eq_true rfl)⟩ (lv_size hl) (Nat.le_of_ble_eq_true rfl) ⟨(Nat.le_of_ble_eq_true rfl), (Nat.le_of_ble_eq_true rfl)⟩ rfl dX7_layProducts_57 (fun H locs hW => ?_)
      refine W.eq (g2 := F0 m 60 ls [.int x41, .int ((7 : Int32) * (x35 + x38)), .ref (G.2.2.2 + (rR q22 12))]) rfl ?_
      refine lv_iadd E.1 E.2.1 dX7_layProducts_60 ?_
      refine lv_iload E.1 E.2.1 dX7_layProducts_61 (lv_at hl 4 rfl) ?_
      obtain ⟨x44, σ43, c45, h⟩ := obn_r h
      refine c_S (As := [.int x26]) (rest := [.int (((7 : Int32) * (x35 + x38)) + x41), .ref (G.2.2.2 + (rR q22 12))]) E hW (m_X7_jOf c45) kw_1110 ws_X7_jOf yo_X7_jOf ⟨rfl, rfl⟩ ⟨(Nat.le_of_ble_eq_true rfl), (Nat.le_of_ble_eq_true rfl)⟩ (lv_size hl) (Nat.le_of_ble_eq_true rfl) ⟨(Nat.le_of_ble_eq_true rfl), (Nat.le_of_ble_eq_true rfl)⟩ rfl dX7_layProducts_63 (fun H locs hW => ?_)
      refine W.eq (g2 := F0 m 66 ls [.int x44, .int (((7 : Int32) * (x35 + x38)) + x41), .ref (G.2.2.2 + (rR q22 12))]) rfl ?_
      refine lv_iadd E.1 E.2.1 dX7_layProducts_66 ?_
      refine lv_topi (fun x46 ex46 => ?_)
      have h := bnd_r ex46 h
      refine lv_dup2_11 E.1 E.2.1 dX7_layProducts_67 rfl rfl ?_
      obtain ⟨g47, h⟩ := gd_r h
      refine r_lald E hW (pr_eq g47.1) g47.2 dX7_layProducts_68 ?_
      refine lv_aload_n E.1 E.2.1 dX7_layProducts_69 rfl (lv_at hl 1 rfl) ?_
      refine lv_iload_n E.1 E.2.1 dX7_layProducts_70 rfl (lv_at hl 3 rfl) ?_
      obtain ⟨g48, h⟩ := gd_r h
      refine r_lald E hW (pr_eq g48.1) g48.2 dX7_layProducts_71 ?_
      refine lv_aload_n E.1 E.2.1 dX7_layProducts_72 rfl (lv_at hl 2 rfl) ?_
      refine lv_iload E.1 E.2.1 dX7_layProducts_73 (lv_at hl 4 rfl) ?_
      obtain ⟨g49, h⟩ := gd_r h
      refine r_lald E hW (pr_eq g49.1) g49.2 dX7_layProducts_75 ?_
      refine lv_lmul E.1 E.2.1 dX7_layProducts_76 ?_
      refine lv_ladd E.1 E.2.1 dX7_layProducts_77 ?_
      refine r_last E hW (pr_eq g47.1) g47.2 dX7_layProducts_78 (fun σ50 H locs eσ50 hW => ?_)
      have h := bnd_r eσ50 h
      obtain ⟨x51, ex51⟩ : ∃ y : Int32, y = x26 + (1 : Int32) := ⟨_, rfl⟩
      have h := bnd_r ex51 h
      refine lv_iinc (v := x51) (lv' := [(4, .int x51), (0, .ref (G.2.2.2 + q22)), (1, .ref (G.2.2.2 + q23)), (2, .ref (G.2.2.2 + q24)), (3, .int x25)]) E.1 E.2.1 dX7_layProducts_79 hl (k := 4) rfl (by rw [ex51]; rfl) (by decide) rfl (fun ls hl => ?_)
      refine lv_goto (tgt := 32) E.1 E.2.1 dX7_layProducts_82 (by decide) ?_
      exact ih _ _ _ _ _ _ _ _ _ h hW (lv_sub hl [1, 2, 3, 4, 0] rfl)
set_option maxHeartbeats 4000000 in
set_option maxRecDepth 100000 in
theorem L_X7_layProducts_23 {p : Program} {l : Launch} {e : Env} {s : State} {m : MethodId} {args : Array Value} {below : List Frame} {meth : Method} {c : Code} {G : GP} {A0 : Nat → Prop} {σ0 : St} {r0 : Unit} (E : En p m c s cX7_layProducts 5 yX7_layProducts.cls G A0) (hr : meth.sig.returnType = none) (hlk : meth.locks = false) : ∀ (n20 : Nat) (q16 : Nat) (q17 : Nat) (q18 : Nat) (x19 : Int32) (σ15 : St) (H : Heap) (locs : List Loc) (ls : Array Slot), f_X7_layProducts_L23 n20 q16 q17 q18 x19 σ15 = some (r0, σ0) → Wo G skR A0 s σ15 H locs → lv_has ls 5 [(0, .ref (G.2.2.2 + q16)), (1, .ref (G.2.2.2 + q17)), (2, .ref (G.2.2.2 + q18)), (3, .int x19)] → W p l e ({ frames := 1, cells := 0, slots := 0, locals := 20 } : Room) s m args below meth c H locs 0 0 (MQ below (QO (PoC G skR σ0) A0 none) args s 0 0 A0) (F0 m 23 ls []) := by
  intro n20
  induction n20 with
  | zero =>
    intro q16 q17 q18 x19 σ15 H locs ls h hW hl
    rw [f_X7_layProducts_L23] at h
    cases h
  | succ n20 ih =>
    intro q16 q17 q18 x19 σ15 H locs ls h hW hl
    rw [f_X7_layProducts_L23] at h
    refine lv_iload_n E.1 E.2.1 dX7_layProducts_23 rfl (lv_at hl 3 rfl) ?_
    refine lv_bipush (v := (10 : Int32)) E.1 E.2.1 dX7_layProducts_24 (by decide) ?_
    refine lv_icmp_ge (tgt := 91) E.1 E.2.1 dX7_layProducts_26 (by decide) (fun g => ?_) (fun g => ?_)
    · have h := ifp h g
      exact e_v E hW hr hlk h dX7_layProducts_91
    · have h := ifn h g
      refine lv_iconst (v := (0 : Int32)) E.1 E.2.1 dX7_layProducts_29 (by decide) ?_
      refine lv_istore (lv' := [(4, .int (0 : Int32)), (0, .ref (G.2.2.2 + q16)), (1, .ref (G.2.2.2 + q17)), (2, .ref (G.2.2.2 + q18)), (3, .int x19)]) E.1 E.2.1 dX7_layProducts_30 hl (by decide) rfl (fun ls hl => ?_)
      refine L_X7_layProducts_32 E hr hlk ?_ _ _ _ _ _ _ _ _ _ _ h hW (lv_sub hl [1, 2, 3, 4, 0] rfl)
      · intro q28 q29 q30 x31 σ27 H locs ls h hW hl
        obtain ⟨x52, ex52⟩ : ∃ y : Int32, y = x31 + (1 : Int32) := ⟨_, rfl⟩
        have h := bnd_r ex52 h
        refine lv_iinc (v := x52) (lv' := [(3, .int x52), (0, .ref (G.2.2.2 + q28)), (1, .ref (G.2.2.2 + q29)), (2, .ref (G.2.2.2 + q30))]) E.1 E.2.1 dX7_layProducts_85 hl (k := 3) rfl (by rw [ex52]; rfl) (by decide) rfl (fun ls hl => ?_)
        refine lv_goto (tgt := 23) E.1 E.2.1 dX7_layProducts_88 (by decide) ?_
        exact ih _ _ _ _ _ _ _ _ h hW (lv_sub hl [1, 2, 3, 0] rfl)
set_option maxHeartbeats 4000000 in
set_option maxRecDepth 100000 in
theorem m_X7_layProducts {l : Launch} {G : GP} {sz : Nat} {q0 : Nat} {q1 : Nat} {q2 : Nat} {σ σ0 : St} {r0 : Unit} (h : f_X7_layProducts q0 q1 q2 σ = some (r0, σ0)) : Met l yX7_layProducts [.code yX7_layProducts cX7_layProducts 5 none] ({ frames := 1, cells := 0, slots := 0, locals := 20 } : Room) (va_Pc [.ref (G.2.2.2 + q0), .ref (G.2.2.2 + q1), .ref (G.2.2.2 + q2)] (PreC G skR sz σ)) (QO (PoC G skR σ0) (Aw G.2.2.2 skR.1 sz) none) 0 0 (Aw G.2.2.2 skR.1 sz) := by
  refine mkMet (by decide +kernel) (Nat.le_of_ble_eq_true rfl) skR_ok ?_
  intro p e s m below meth c ls E hW hl hr hlk
  have hl : lv_has ls 5 [(0, .ref (G.2.2.2 + q0)), (1, .ref (G.2.2.2 + q1)), (2, .ref (G.2.2.2 + q2))] := hl
  generalize Aw G.2.2.2 skR.1 s.heap.size = A0 at E hW ⊢
  generalize ([.ref (G.2.2.2 + q0), .ref (G.2.2.2 + q1), .ref (G.2.2.2 + q2)] : List Value).toArray = args
  unfold f_X7_layProducts at h
  refine lv_iconst (v := (0 : Int32)) E.1 E.2.1 dX7_layProducts_0 (by decide) ?_
  refine lv_istore_n (lv' := [(3, .int (0 : Int32)), (0, .ref (G.2.2.2 + q0)), (1, .ref (G.2.2.2 + q1)), (2, .ref (G.2.2.2 + q2))]) E.1 E.2.1 dX7_layProducts_1 rfl hl (by decide) rfl (fun ls hl => ?_)
  refine L_X7_layProducts_2 E hr hlk ?_ _ _ _ _ _ _ _ _ _ h hW (lv_sub hl [1, 2, 3, 0] rfl)
  · intro q7 q8 q9 σ6 H locs ls h hW hl
    refine lv_iconst (v := (0 : Int32)) E.1 E.2.1 dX7_layProducts_21 (by decide) ?_
    refine lv_istore_n (lv' := [(3, .int (0 : Int32)), (0, .ref (G.2.2.2 + q7)), (1, .ref (G.2.2.2 + q8)), (2, .ref (G.2.2.2 + q9))]) E.1 E.2.1 dX7_layProducts_22 rfl hl (by decide) rfl (fun ls hl => ?_)
    refine L_X7_layProducts_23 E hr hlk _ _ _ _ _ _ _ _ _ h hW (lv_sub hl [1, 2, 3, 0] rfl)
set_option maxHeartbeats 4000000 in
set_option maxRecDepth 100000 in
theorem L_X7_productOf_56 {p : Program} {l : Launch} {e : Env} {s : State} {m : MethodId} {args : Array Value} {below : List Frame} {meth : Method} {c : Code} {G : GP} {A0 : Nat → Prop} {σ0 : St} {r0 : Int32} {K204 : Nat → Nat → Nat → Nat → Int64 → Int64 → Int64 → Int64 → Int64 → Int64 → Int32 → St → Option (Int32 × St)} (E : En p m c s cX7_productOf 20 yX7_productOf.cls G A0) (hr : meth.sig.returnType = (some .boolean)) (hlk : meth.locks = false) (hK204 : ∀ (q56 : Nat) (q57 : Nat) (q58 : Nat) (q59 : Nat) (x60 : Int64) (x61 : Int64) (x62 : Int64) (x63 : Int64) (x64 : Int64) (x65 : Int64) (x66 : Int32) (σ55 : St) (H : Heap) (locs : List Loc) (ls : Array Slot), K204 q56 q57 q58 q59 x60 x61 x62 x63 x64 x65 x66 σ55 = some (r0, σ0) → Wo G skR A0 s σ55 H locs → lv_has ls 20 [(0, .ref (G.2.2.2 + q56)), (1, .ref (G.2.2.2 + q57)), (2, .ref (G.2.2.2 + q58)), (3, .ref (G.2.2.2 + q59)), (4, .long x60), (6, .long x61), (8, .long x62), (10, .long x63), (12, .long x64), (14, .long x65), (16, .int x66)] → W p l e ({ frames := 4, cells := 0, slots := 0, locals := 92 } : Room) s m args below meth c H locs 0 0 (MQ below (QO (PoC G skR σ0) A0 (some (.int r0))) args s 0 0 A0) (F0 m 204 ls [])) : ∀ (n67 : Nat) (q43 : Nat) (q44 : Nat) (q45 : Nat) (q46 : Nat) (x47 : Int64) (x48 : Int64) (x49 : Int64) (x50 : Int64) (x51 : Int64) (x52 : Int64) (x53 : Int32) (x54 : Int32) (σ42 : St) (H : Heap) (locs : List Loc) (ls : Array Slot), f_X7_productOf_L56 K204 n67 q43 q44 q45 q46 x47 x48 x49 x50 x51 x52 x53 x54 σ42 = some (r0, σ0) → Wo G skR A0 s σ42 H locs → lv_has ls 20 [(0, .ref (G.2.2.2 + q43)), (1, .ref (G.2.2.2 + q44)), (2, .ref (G.2.2.2 + q45)), (3, .ref (G.2.2.2 + q46)), (4, .long x47), (6, .long x48), (8, .long x49), (10, .long x50), (12, .long x51), (14, .long x52), (16, .int x53), (17, .int x54)] → W p l e ({ frames := 4, cells := 0, slots := 0, locals := 92 } : Room) s m args below meth c H locs 0 0 (MQ below (QO (PoC G skR σ0) A0 (some (.int r0))) args s 0 0 A0) (F0 m 56 ls []) := by
  intro n67
  induction n67 with
  | zero =>
    intro q43 q44 q45 q46 x47 x48 x49 x50 x51 x52 x53 x54 σ42 H locs ls h hW hl
    rw [f_X7_productOf_L56] at h
    cases h
  | succ n67 ih =>
    intro q43 q44 q45 q46 x47 x48 x49 x50 x51 x52 x53 x54 σ42 H locs ls h hW hl
    rw [f_X7_productOf_L56] at h
    refine lv_iload E.1 E.2.1 dX7_productOf_56 (lv_at hl 10 rfl) ?_
    refine lv_iload E.1 E.2.1 dX7_productOf_58 (lv_at hl 11 rfl) ?_
    refine lv_iadd E.1 E.2.1 dX7_productOf_60 ?_
    refine lv_bipush (v := (7 : Int32)) E.1 E.2.1 dX7_productOf_61 (by decide) ?_
    refine lv_icmp_ge (tgt := 204) E.1 E.2.1 dX7_productOf_63 (by decide) (fun g => ?_) (fun g => ?_)
    · have h := ifp h g
      exact hK204 _ _ _ _ _ _ _ _ _ _ _ _ _ _ _ h hW (lv_sub hl [0, 1, 2, 3, 4, 5, 6, 7, 8, 9, 10] rfl)
    · have h := ifn h g
      refine lv_aload_n E.1 E.2.1 dX7_productOf_66 rfl (lv_at hl 0 rfl) ?_
      obtain ⟨g68, h⟩ := gd_r h
      refine gf_X7_28 E hW g68 dX7_productOf_67 ?_
      refine lv_bipush (v := (7 : Int32)) E.1 E.2.1 dX7_productOf_70 (by decide) ?_
      refine lv_iload E.1 E.2.1 dX7_productOf_72 (lv_at hl 10 rfl) ?_
      refine lv_imul E.1 E.2.1 dX7_productOf_74 ?_
      refine lv_iload E.1 E.2.1 dX7_productOf_75 (lv_at hl 11 rfl) ?_
      refine lv_iadd E.1 E.2.1 dX7_productOf_77 ?_
      obtain ⟨g69, h⟩ := gd_r h
      refine r_lald E hW (pr_eq g69.1) g69.2 dX7_productOf_78 ?_
      refine lv_topl (fun x70 ex70 => ?_)
      have h := bnd_r ex70 h
      refine lv_lstore (lv' := [(18, .long x70), (0, .ref (G.2.2.2 + q43)), (1, .ref (G.2.2.2 + q44)), (2, .ref (G.2.2.2 + q45)), (3, .ref (G.2.2.2 + q46)), (4, .long x47), (6, .long x48), (8, .long x49), (10, .long x50), (12, .long x51), (14, .long x52), (16, .int x53), (17, .int x54)]) E.1 E.2.1 dX7_productOf_79 hl (by decide) rfl (fun ls hl => ?_)
      refine lv_iload E.1 E.2.1 dX7_productOf_81 (lv_at hl 11 rfl) ?_
      refine lv_iload E.1 E.2.1 dX7_productOf_83 (lv_at hl 12 rfl) ?_
      refine lv_iadd E.1 E.2.1 dX7_productOf_85 ?_
      refine lv_iconst (v := (3 : Int32)) E.1 E.2.1 dX7_productOf_86 (by decide) ?_
      refine lv_icmp_le (tgt := 121) E.1 E.2.1 dX7_productOf_87 (by decide) (fun g => ?_) (fun g => ?_)
      · have h := ifp h g
        refine lv_aload_n E.1 E.2.1 dX7_productOf_121 rfl (lv_at hl 1 rfl) ?_
        refine gf_X7_32 E hW g68 dX7_productOf_122 ?_
        refine lv_iload E.1 E.2.1 dX7_productOf_125 (lv_at hl 11 rfl) ?_
        refine lv_iload E.1 E.2.1 dX7_productOf_127 (lv_at hl 12 rfl) ?_
        obtain ⟨x72, σ71, c73, h⟩ := obn_r h
        refine c_S (As := [.int x53, .int x54]) (rest := [.ref (G.2.2.2 + (rR q43 13))]) E hW (m_X7_place c73) kw_1093 ws_X7_place yo_X7_place ⟨rfl, rfl⟩ ⟨(Nat.le_of_ble_eq_true rfl), (Nat.le_of_ble_eq_true rfl)⟩ (lv_size hl) (Nat.le_of_ble_eq_true rfl) ⟨(Nat.le_of_ble_eq_true rfl), (Nat.le_of_ble_eq_true rfl)⟩ rfl dX7_productOf_129 (fun H locs hW => ?_)
        refine W.eq (g2 := F0 m 132 ls [.int x72, .ref (G.2.2.2 + (rR q43 13))]) rfl ?_
        refine lv_lload E.1 E.2.1 dX7_productOf_132 (lv_at hl 0 rfl) ?_
        refine lv_ldc2 (v := (1000 : Int64)) E.1 E.2.1 E.2.2.2.1 (E.wd kw_1096) dX7_productOf_134 ?_
        obtain ⟨x75, σ74, c76, h⟩ := obn_r h
        refine c_S (As := [.long x70, .long (1000 : Int64)]) (rest := [.int x72, .ref (G.2.2.2 + (rR q43 13))]) E hW (m_X7_down c76) kw_1119 ws_X7_down yo_X7_down ⟨rfl, rfl⟩ ⟨(Nat.le_of_ble_eq_true rfl), (Nat.le_of_ble_eq_true rfl)⟩ (lv_size hl) (Nat.le_of_ble_eq_true rfl) ⟨(Nat.le_of_ble_eq_true rfl), (Nat.le_of_ble_eq_true rfl)⟩ rfl dX7_productOf_137 (fun H locs hW => ?_)
        refine W.eq (g2 := F0 m 140 ls [.long x75, .int x72, .ref (G.2.2.2 + (rR q43 13))]) rfl ?_
        obtain ⟨g77, h⟩ := gd_r h
        refine r_last E hW (pr_eq g77.1) g77.2 dX7_productOf_140 (fun σ78 H locs eσ78 hW => ?_)
        have h := bnd_r eσ78 h
        refine lv_lload E.1 E.2.1 dX7_productOf_141 (lv_at hl 0 rfl) ?_
        refine lv_ldc2 (v := (1000 : Int64)) E.1 E.2.1 E.2.2.2.1 (E.wd kw_1096) dX7_productOf_143 ?_
        refine lv_lrem E.1 E.2.1 dX7_productOf_146 (by decide) ?_
        refine lv_lconst (v := (0 : Int64)) E.1 E.2.1 dX7_productOf_147 (by decide) ?_
        refine r_lc_ne E dX7_productOf_148 dX7_productOf_149 (tgt := 155) (by decide) (fun g => ?_) (fun g => ?_)
        · have h := ifn h g
          refine lv_aload_n E.1 E.2.1 dX7_productOf_155 rfl (lv_at hl 1 rfl) ?_
          refine gf_X7_32 E hW g68 dX7_productOf_156 ?_
          refine lv_bipush (v := (10 : Int32)) E.1 E.2.1 dX7_productOf_159 (by decide) ?_
          refine lv_dup2_11 E.1 E.2.1 dX7_productOf_161 rfl rfl ?_
          obtain ⟨g79, h⟩ := gd_r h
          refine r_lald E hW (pr_eq g79.1) g79.2 dX7_productOf_162 ?_
          refine lv_iload E.1 E.2.1 dX7_productOf_163 (lv_at hl 11 rfl) ?_
          obtain ⟨J97, eJ97, h⟩ := bnd_x h
          have hJ97 : ∀ (q81 : Nat) (q82 : Nat) (q83 : Nat) (q84 : Nat) (x85 : Int64) (x86 : Int64) (x87 : Int64) (x88 : Int64) (x89 : Int64) (x90 : Int64) (x91 : Int32) (x92 : Int32) (x93 : Int64) (x94 : Int64) (x95 : Int32) (q96 : Nat) (σ80 : St) (H : Heap) (locs : List Loc) (ls : Array Slot), J97 q81 q82 q83 q84 x85 x86 x87 x88 x89 x90 x91 x92 x93 x94 x95 q96 σ80 = some (r0, σ0) → Wo G skR A0 s σ80 H locs → lv_has ls 20 [(0, .ref (G.2.2.2 + q81)), (1, .ref (G.2.2.2 + q82)), (2, .ref (G.2.2.2 + q83)), (3, .ref (G.2.2.2 + q84)), (4, .long x85), (6, .long x86), (8, .long x87), (10, .long x88), (12, .long x89), (14, .long x90), (16, .int x91), (17, .int x92)] → W p l e ({ frames := 4, cells := 0, slots := 0, locals := 92 } : Room) s m args below meth c H locs 0 0 (MQ below (QO (PoC G skR σ0) A0 (some (.int r0))) args s 0 0 A0) (F0 m 185 ls [.long x93, .long x94, .int x95, .ref (G.2.2.2 + q96)]) := by
            intro q81 q82 q83 q84 x85 x86 x87 x88 x89 x90 x91 x92 x93 x94 x95 q96 σ80 H locs ls h hW hl
            have h := jr17 eJ97 h
            refine lv_ladd E.1 E.2.1 dX7_productOf_185 ?_
            obtain ⟨g98, h⟩ := gd_r h
            refine r_last E hW (pr_eq g98.1) g98.2 dX7_productOf_186 (fun σ99 H locs eσ99 hW => ?_)
            have h := bnd_r eσ99 h
            refine lv_aload_n E.1 E.2.1 dX7_productOf_187 rfl (lv_at hl 0 rfl) ?_
            obtain ⟨g100, h⟩ := gd_r h
            refine gf_X7_32 E hW g100 dX7_productOf_188 ?_
            refine lv_bipush (v := (11 : Int32)) E.1 E.2.1 dX7_productOf_191 (by decide) ?_
            refine lv_dup2_11 E.1 E.2.1 dX7_productOf_193 rfl rfl ?_
            obtain ⟨g101, h⟩ := gd_r h
            refine r_lald E hW (pr_eq g101.1) g101.2 dX7_productOf_194 ?_
            refine lv_lconst (v := (1 : Int64)) E.1 E.2.1 dX7_productOf_195 (by decide) ?_
            refine lv_ladd E.1 E.2.1 dX7_productOf_196 ?_
            refine r_last E hW (pr_eq g101.1) g101.2 dX7_productOf_197 (fun σ102 H locs eσ102 hW => ?_)
            have h := bnd_r eσ102 h
            obtain ⟨x103, ex103⟩ : ∃ y : Int32, y = x92 + (1 : Int32) := ⟨_, rfl⟩
            have h := bnd_r ex103 h
            refine lv_iinc (v := x103) (lv' := [(17, .int x103), (0, .ref (G.2.2.2 + q81)), (1, .ref (G.2.2.2 + q82)), (2, .ref (G.2.2.2 + q83)), (3, .ref (G.2.2.2 + q84)), (4, .long x85), (6, .long x86), (8, .long x87), (10, .long x88), (12, .long x89), (14, .long x90), (16, .int x91)]) E.1 E.2.1 dX7_productOf_198 hl (k := 11) rfl (by rw [ex103]; rfl) (by decide) rfl (fun ls hl => ?_)
            refine lv_goto (tgt := 56) E.1 E.2.1 dX7_productOf_201 (by decide) ?_
            exact ih _ _ _ _ _ _ _ _ _ _ _ _ _ _ _ _ h hW (lv_sub hl [1, 2, 3, 4, 5, 6, 7, 8, 9, 10, 11, 0] rfl)
          obtain ⟨J120, eJ120, h⟩ := bnd_x h
          have hJ120 : ∀ (q105 : Nat) (q106 : Nat) (q107 : Nat) (q108 : Nat) (x109 : Int64) (x110 : Int64) (x111 : Int64) (x112 : Int64) (x113 : Int64) (x114 : Int64) (x115 : Int32) (x116 : Int32) (x117 : Int64) (x118 : Int32) (q119 : Nat) (σ104 : St) (H : Heap) (locs : List Loc) (ls : Array Slot), J120 q105 q106 q107 q108 x109 x110 x111 x112 x113 x114 x115 x116 x117 x118 q119 σ104 = some (r0, σ0) → Wo G skR A0 s σ104 H locs → lv_has ls 20 [(0, .ref (G.2.2.2 + q105)), (1, .ref (G.2.2.2 + q106)), (2, .ref (G.2.2.2 + q107)), (3, .ref (G.2.2.2 + q108)), (4, .long x109), (6, .long x110), (8, .long x111), (10, .long x112), (12, .long x113), (14, .long x114), (16, .int x115), (17, .int x116)] → W p l e ({ frames := 4, cells := 0, slots := 0, locals := 92 } : Room) s m args below meth c H locs 0 0 (MQ below (QO (PoC G skR σ0) A0 (some (.int r0))) args s 0 0 A0) (F0 m 177 ls [.long x117, .int x118, .ref (G.2.2.2 + q119)]) := by
            intro q105 q106 q107 q108 x109 x110 x111 x112 x113 x114 x115 x116 x117 x118 q119 σ104 H locs ls h hW hl
            have h := jr16 eJ120 h
            refine lv_lconst (v := (1 : Int64)) E.1 E.2.1 dX7_productOf_177 (by decide) ?_
            refine lv_iload E.1 E.2.1 dX7_productOf_178 (lv_at hl 10 rfl) ?_
            refine lv_iload E.1 E.2.1 dX7_productOf_180 (lv_at hl 11 rfl) ?_
            obtain ⟨x122, σ121, c123, h⟩ := obn_r h
            refine c_S (As := [.long (1 : Int64), .int x115, .int x116]) (rest := [.long x117, .int x118, .ref (G.2.2.2 + q119)]) E hW (m_X7_low c123) kw_1113 ws_X7_low yo_X7_low ⟨rfl, rfl⟩ ⟨(Nat.le_of_ble_eq_true rfl), (Nat.le_of_ble_eq_true rfl)⟩ (lv_size hl) (Nat.le_of_ble_eq_true rfl) ⟨(Nat.le_of_ble_eq_true rfl), (Nat.le_of_ble_eq_true rfl)⟩ rfl dX7_productOf_182 (fun H locs hW => ?_)
            refine W.eq (g2 := F0 m 185 ls [.long x122, .long x117, .int x118, .ref (G.2.2.2 + q119)]) rfl ?_
            exact hJ97 _ _ _ _ _ _ _ _ _ _ _ _ _ _ _ _ _ _ _ _ h hW (lv_sub hl [0, 1, 2, 3, 4, 5, 6, 7, 8, 9, 10, 11] rfl)
          refine lv_if_ne (tgt := 177) E.1 E.2.1 dX7_productOf_165 (by decide) (fun g => ?_) (fun g => ?_)
          · have h := ifn h g
            exact hJ120 _ _ _ _ _ _ _ _ _ _ _ _ _ _ _ _ _ _ _ h hW (lv_sub hl [1, 2, 3, 4, 5, 6, 7, 8, 9, 10, 11, 12] rfl)
          · have h := ifp h g
            refine lv_iload E.1 E.2.1 dX7_productOf_168 (lv_at hl 12 rfl) ?_
            refine lv_if_ne (tgt := 177) E.1 E.2.1 dX7_productOf_170 (by decide) (fun g => ?_) (fun g => ?_)
            · have h := ifn h g
              exact hJ120 _ _ _ _ _ _ _ _ _ _ _ _ _ _ _ _ _ _ _ h hW (lv_sub hl [1, 2, 3, 4, 5, 6, 7, 8, 9, 10, 11, 12] rfl)
            · have h := ifp h g
              refine lv_lconst (v := (0 : Int64)) E.1 E.2.1 dX7_productOf_173 (by decide) ?_
              refine lv_goto (tgt := 185) E.1 E.2.1 dX7_productOf_174 (by decide) ?_
              exact hJ97 _ _ _ _ _ _ _ _ _ _ _ _ _ _ _ _ _ _ _ _ h hW (lv_sub hl [1, 2, 3, 4, 5, 6, 7, 8, 9, 10, 11, 12] rfl)
        · have h := ifp h g
          refine lv_goto (tgt := 198) E.1 E.2.1 dX7_productOf_152 (by decide) ?_
          obtain ⟨x124, ex124⟩ : ∃ y : Int32, y = x54 + (1 : Int32) := ⟨_, rfl⟩
          have h := bnd_r ex124 h
          refine lv_iinc (v := x124) (lv' := [(17, .int x124), (18, .long x70), (0, .ref (G.2.2.2 + q43)), (1, .ref (G.2.2.2 + q44)), (2, .ref (G.2.2.2 + q45)), (3, .ref (G.2.2.2 + q46)), (4, .long x47), (6, .long x48), (8, .long x49), (10, .long x50), (12, .long x51), (14, .long x52), (16, .int x53)]) E.1 E.2.1 dX7_productOf_198 hl (k := 12) rfl (by rw [ex124]; rfl) (by decide) rfl (fun ls hl => ?_)
          refine lv_goto (tgt := 56) E.1 E.2.1 dX7_productOf_201 (by decide) ?_
          exact ih _ _ _ _ _ _ _ _ _ _ _ _ _ _ _ _ h hW (lv_sub hl [2, 3, 4, 5, 6, 7, 8, 9, 10, 11, 12, 0] rfl)
      · have h := ifn h g
        refine lv_lload E.1 E.2.1 dX7_productOf_90 (lv_at hl 9 rfl) ?_
        refine lv_lload E.1 E.2.1 dX7_productOf_92 (lv_at hl 0 rfl) ?_
        refine lv_iload E.1 E.2.1 dX7_productOf_94 (lv_at hl 11 rfl) ?_
        refine lv_iload E.1 E.2.1 dX7_productOf_96 (lv_at hl 12 rfl) ?_
        obtain ⟨x126, σ125, c127, h⟩ := obn_r h
        refine c_S (As := [.long x70, .int x53, .int x54]) (rest := [.long x51]) E hW (m_X7_low c127) kw_1113 ws_X7_low yo_X7_low ⟨rfl, rfl⟩ ⟨(Nat.le_of_ble_eq_true rfl), (Nat.le_of_ble_eq_true rfl)⟩ (lv_size hl) (Nat.le_of_ble_eq_true rfl) ⟨(Nat.le_of_ble_eq_true rfl), (Nat.le_of_ble_eq_true rfl)⟩ rfl dX7_productOf_98 (fun H locs hW => ?_)
        refine W.eq (g2 := F0 m 101 ls [.long x126, .long x51]) rfl ?_
        refine lv_ladd E.1 E.2.1 dX7_productOf_101 ?_
        refine lv_topl (fun x128 ex128 => ?_)
        have h := bnd_r ex128 h
        refine lv_lstore (lv' := [(12, .long x128), (18, .long x70), (0, .ref (G.2.2.2 + q43)), (1, .ref (G.2.2.2 + q44)), (2, .ref (G.2.2.2 + q45)), (3, .ref (G.2.2.2 + q46)), (4, .long x47), (6, .long x48), (8, .long x49), (10, .long x50), (14, .long x52), (16, .int x53), (17, .int x54)]) E.1 E.2.1 dX7_productOf_102 hl (by decide) rfl (fun ls hl => ?_)
        refine lv_lload E.1 E.2.1 dX7_productOf_104 (lv_at hl 10 rfl) ?_
        refine lv_lload E.1 E.2.1 dX7_productOf_106 (lv_at hl 1 rfl) ?_
        refine lv_iload E.1 E.2.1 dX7_productOf_108 (lv_at hl 11 rfl) ?_
        refine lv_iload E.1 E.2.1 dX7_productOf_110 (lv_at hl 12 rfl) ?_
        obtain ⟨x130, σ129, c131, h⟩ := obn_r h
        refine c_S (As := [.long x70, .int x53, .int x54]) (rest := [.long x52]) E hW (m_X7_high c131) kw_1122 ws_X7_high yo_X7_high ⟨rfl, rfl⟩ ⟨(Nat.le_of_ble_eq_true rfl), (Nat.le_of_ble_eq_true rfl)⟩ (lv_size hl) (Nat.le_of_ble_eq_true rfl) ⟨(Nat.le_of_ble_eq_true rfl), (Nat.le_of_ble_eq_true rfl)⟩ rfl dX7_productOf_112 (fun H locs hW => ?_)
        refine W.eq (g2 := F0 m 115 ls [.long x130, .long x52]) rfl ?_
        refine lv_ladd E.1 E.2.1 dX7_productOf_115 ?_
        refine lv_topl (fun x132 ex132 => ?_)
        have h := bnd_r ex132 h
        refine lv_lstore (lv' := [(14, .long x132), (12, .long x128), (18, .long x70), (0, .ref (G.2.2.2 + q43)), (1, .ref (G.2.2.2 + q44)), (2, .ref (G.2.2.2 + q45)), (3, .ref (G.2.2.2 + q46)), (4, .long x47), (6, .long x48), (8, .long x49), (10, .long x50), (16, .int x53), (17, .int x54)]) E.1 E.2.1 dX7_productOf_116 hl (by decide) rfl (fun ls hl => ?_)
        refine lv_goto (tgt := 198) E.1 E.2.1 dX7_productOf_118 (by decide) ?_
        obtain ⟨x133, ex133⟩ : ∃ y : Int32, y = x54 + (1 : Int32) := ⟨_, rfl⟩
        have h := bnd_r ex133 h
        refine lv_iinc (v := x133) (lv' := [(17, .int x133), (14, .long x132), (12, .long x128), (18, .long x70), (0, .ref (G.2.2.2 + q43)), (1, .ref (G.2.2.2 + q44)), (2, .ref (G.2.2.2 + q45)), (3, .ref (G.2.2.2 + q46)), (4, .long x47), (6, .long x48), (8, .long x49), (10, .long x50), (16, .int x53)]) E.1 E.2.1 dX7_productOf_198 hl (k := 12) rfl (by rw [ex133]; rfl) (by decide) rfl (fun ls hl => ?_)
        refine lv_goto (tgt := 56) E.1 E.2.1 dX7_productOf_201 (by decide) ?_
        exact ih _ _ _ _ _ _ _ _ _ _ _ _ _ _ _ _ h hW (lv_sub hl [4, 5, 6, 7, 8, 9, 10, 11, 2, 1, 12, 0] rfl)
set_option maxHeartbeats 4000000 in
set_option maxRecDepth 100000 in
theorem L_X7_productOf_46 {p : Program} {l : Launch} {e : Env} {s : State} {m : MethodId} {args : Array Value} {below : List Frame} {meth : Method} {c : Code} {G : GP} {A0 : Nat → Prop} {σ0 : St} {r0 : Int32} {K210 : Nat → Nat → Nat → Nat → Int64 → Int64 → Int64 → Int64 → Int64 → Int64 → St → Option (Int32 × St)} (E : En p m c s cX7_productOf 20 yX7_productOf.cls G A0) (hr : meth.sig.returnType = (some .boolean)) (hlk : meth.locks = false) (hK210 : ∀ (q31 : Nat) (q32 : Nat) (q33 : Nat) (q34 : Nat) (x35 : Int64) (x36 : Int64) (x37 : Int64) (x38 : Int64) (x39 : Int64) (x40 : Int64) (σ30 : St) (H : Heap) (locs : List Loc) (ls : Array Slot), K210 q31 q32 q33 q34 x35 x36 x37 x38 x39 x40 σ30 = some (r0, σ0) → Wo G skR A0 s σ30 H locs → lv_has ls 20 [(0, .ref (G.2.2.2 + q31)), (1, .ref (G.2.2.2 + q32)), (2, .ref (G.2.2.2 + q33)), (3, .ref (G.2.2.2 + q34)), (4, .long x35), (6, .long x36), (8, .long x37), (10, .long x38), (12, .long x39), (14, .long x40)] → W p l e ({ frames := 4, cells := 0, slots := 0, locals := 92 } : Room) s m args below meth c H locs 0 0 (MQ below (QO (PoC G skR σ0) A0 (some (.int r0))) args s 0 0 A0) (F0 m 210 ls [])) : ∀ (n41 : Nat) (q19 : Nat) (q20 : Nat) (q21 : Nat) (q22 : Nat) (x23 : Int64) (x24 : Int64) (x25 : Int64) (x26 : Int64) (x27 : Int64) (x28 : Int64) (x29 : Int32) (σ18 : St) (H : Heap) (locs : List Loc) (ls : Array Slot), f_X7_productOf_L46 K210 n41 q19 q20 q21 q22 x23 x24 x25 x26 x27 x28 x29 σ18 = some (r0, σ0) → Wo G skR A0 s σ18 H locs → lv_has ls 20 [(0, .ref (G.2.2.2 + q19)), (1, .ref (G.2.2.2 + q20)), (2, .ref (G.2.2.2 + q21)), (3, .ref (G.2.2.2 + q22)), (4, .long x23), (6, .long x24), (8, .long x25), (10, .long x26), (12, .long x27), (14, .long x28), (16, .int x29)] → W p l e ({ frames := 4, cells := 0, slots := 0, locals := 92 } : Room) s m args below meth c H locs 0 0 (MQ below (QO (PoC G skR σ0) A0 (some (.int r0))) args s 0 0 A0) (F0 m 46 ls []) := by
  intro n41
  induction n41 with
  | zero =>
    intro q19 q20 q21 q22 x23 x24 x25 x26 x27 x28 x29 σ18 H locs ls h hW hl
    rw [f_X7_productOf_L46] at h
    cases h
  | succ n41 ih =>
    intro q19 q20 q21 q22 x23 x24 x25 x26 x27 x28 x29 σ18 H locs ls h hW hl
    rw [f_X7_productOf_L46] at h
    refine lv_iload E.1 E.2.1 dX7_productOf_46 (lv_at hl 10 rfl) ?_
    refine lv_bipush (v := (7 : Int32)) E.1 E.2.1 dX7_productOf_48 (by decide) ?_
    refine lv_icmp_ge (tgt := 210) E.1 E.2.1 dX7_productOf_50 (by decide) (fun g => ?_) (fun g => ?_)
    · have h := ifp h g
      exact hK210 _ _ _ _ _ _ _ _ _ _ _ _ _ _ h hW (lv_sub hl [0, 1, 2, 3, 4, 5, 6, 7, 8, 9] rfl)
    · have h := ifn h g
      refine lv_iconst (v := (0 : Int32)) E.1 E.2.1 dX7_productOf_53 (by decide) ?_
      refine lv_istore (lv' := [(17, .int (0 : Int32)), (0, .ref (G.2.2.2 + q19)), (1, .ref (G.2.2.2 + q20)), (2, .ref (G.2.2.2 + q21)), (3, .ref (G.2.2.2 + q22)), (4, .long x23), (6, .long x24), (8, .long x25), (10, .long x26), (12, .long x27), (14, .long x28), (16, .int x29)]) E.1 E.2.1 dX7_productOf_54 hl (by decide) rfl (fun ls hl => ?_)
      refine L_X7_productOf_56 E hr hlk ?_ _ _ _ _ _ _ _ _ _ _ _ _ _ _ _ _ _ h hW (lv_sub hl [1, 2, 3, 4, 5, 6, 7, 8, 9, 10, 11, 0] rfl)
      · intro q56 q57 q58 q59 x60 x61 x62 x63 x64 x65 x66 σ55 H locs ls h hW hl
        obtain ⟨x134, ex134⟩ : ∃ y : Int32, y = x66 + (1 : Int32) := ⟨_, rfl⟩
        have h := bnd_r ex134 h
        refine lv_iinc (v := x134) (lv' := [(16, .int x134), (0, .ref (G.2.2.2 + q56)), (1, .ref (G.2.2.2 + q57)), (2, .ref (G.2.2.2 + q58)), (3, .ref (G.2.2.2 + q59)), (4, .long x60), (6, .long x61), (8, .long x62), (10, .long x63), (12, .long x64), (14, .long x65)]) E.1 E.2.1 dX7_productOf_204 hl (k := 10) rfl (by rw [ex134]; rfl) (by decide) rfl (fun ls hl => ?_)
        refine lv_goto (tgt := 46) E.1 E.2.1 dX7_productOf_207 (by decide) ?_
        exact ih _ _ _ _ _ _ _ _ _ _ _ _ _ _ _ h hW (lv_sub hl [1, 2, 3, 4, 5, 6, 7, 8, 9, 10, 0] rfl)
set_option maxHeartbeats 4000000 in
set_option maxRecDepth 100000 in
theorem m_X7_productOf {l : Launch} {G : GP} {sz : Nat} {q0 : Nat} {q1 : Nat} {q2 : Nat} {q3 : Nat} {σ σ0 : St} {r0 : Int32} (h : f_X7_productOf q0 q1 q2 q3 σ = some (r0, σ0)) : Met l yX7_productOf [.code yX7_productOf cX7_productOf 20 (some .boolean)] ({ frames := 4, cells := 0, slots := 0, locals := 92 } : Room) (va_Pc [.ref (G.2.2.2 + q0), .ref (G.2.2.2 + q1), .ref (G.2.2.2 + q2), .ref (G.2.2.2 + q3)] (PreC G skR sz σ)) (QO (PoC G skR σ0) (Aw G.2.2.2 skR.1 sz) (some (.int r0))) 0 0 (Aw G.2.2.2 skR.1 sz) := by
  refine mkMet (by decide +kernel) (Nat.le_of_ble_eq_true rfl) skR_ok ?_
  intro p e s m below meth c ls E hW hl hr hlk
  have hl : lv_has ls 20 [(0, .ref (G.2.2.2 + q0)), (1, .ref (G.2.2.2 + q1)), (2, .ref (G.2.2.2 + q2)), (3, .ref (G.2.2.2 + q3))] := hl
  generalize Aw G.2.2.2 skR.1 s.heap.size = A0 at E hW ⊢
  generalize ([.ref (G.2.2.2 + q0), .ref (G.2.2.2 + q1), .ref (G.2.2.2 + q2), .ref (G.2.2.2 + q3)] : List Value).toArray = args
  unfold f_X7_productOf at h
  refine lv_aload_n E.1 E.2.1 dX7_productOf_0 rfl (lv_at hl 0 rfl) ?_
  refine lv_aload_n E.1 E.2.1 dX7_productOf_1 rfl (lv_at hl 1 rfl) ?_
  refine lv_aload_n E.1 E.2.1 dX7_productOf_2 rfl (lv_at hl 2 rfl) ?_
  obtain ⟨g1, h⟩ := gd_r h
  obtain ⟨_r, σ2, c3, h⟩ := obn_r h
  refine c_V (As := [.ref (G.2.2.2 + q1), .ref (G.2.2.2 + q2)]) (rest := []) E hW (m_X7_layProducts c3) g1 rfl kw_1169 wv_X7_layProducts yo_X7_layProducts ⟨rfl, rfl⟩ ⟨(Nat.le_of_ble_eq_true rfl), (Nat.le_of_ble_eq_true rfl)⟩ (lv_size hl) (Nat.le_of_ble_eq_true rfl) ⟨(Nat.le_of_ble_eq_true rfl), (Nat.le_of_ble_eq_true rfl)⟩ rfl dX7_productOf_3 (fun H locs hW => ?_)
  refine W.eq (g2 := F0 m 6 ls []) rfl ?_
  refine lv_aload_n E.1 E.2.1 dX7_productOf_6 rfl (lv_at hl 1 rfl) ?_
  obtain ⟨x5, σ4, c6, h⟩ := obn_r h
  refine c_S (As := [.ref (G.2.2.2 + q1)]) (rest := []) E hW (m_X7_spreadLow c6) kw_1158 ws_X7_spreadLow yo_X7_spreadLow ⟨rfl, rfl⟩ ⟨(Nat.le_of_ble_eq_true rfl), (Nat.le_of_ble_eq_true rfl)⟩ (lv_size hl) (Nat.le_of_ble_eq_true rfl) ⟨(Nat.le_of_ble_eq_true rfl), (Nat.le_of_ble_eq_true rfl)⟩ rfl dX7_productOf_7 (fun H locs hW => ?_)
  refine W.eq (g2 := F0 m 10 ls [.long x5]) rfl ?_
  refine lv_lstore (lv' := [(4, .long x5), (0, .ref (G.2.2.2 + q0)), (1, .ref (G.2.2.2 + q1)), (2, .ref (G.2.2.2 + q2)), (3, .ref (G.2.2.2 + q3))]) E.1 E.2.1 dX7_productOf_10 hl (by decide) rfl (fun ls hl => ?_)
  refine lv_aload_n E.1 E.2.1 dX7_productOf_12 rfl (lv_at hl 2 rfl) ?_
  obtain ⟨x8, σ7, c9, h⟩ := obn_r h
  refine c_S (As := [.ref (G.2.2.2 + q1)]) (rest := []) E hW (m_X7_spreadHigh c9) kw_1162 ws_X7_spreadHigh yo_X7_spreadHigh ⟨rfl, rfl⟩ ⟨(Nat.le_of_ble_eq_true rfl), (Nat.le_of_ble_eq_true rfl)⟩ (lv_size hl) (Nat.le_of_ble_eq_true rfl) ⟨(Nat.le_of_ble_eq_true rfl), (Nat.le_of_ble_eq_true rfl)⟩ rfl dX7_productOf_13 (fun H locs hW => ?_)
  refine W.eq (g2 := F0 m 16 ls [.long x8]) rfl ?_
  refine lv_lstore (lv' := [(6, .long x8), (4, .long x5), (0, .ref (G.2.2.2 + q0)), (1, .ref (G.2.2.2 + q1)), (2, .ref (G.2.2.2 + q2)), (3, .ref (G.2.2.2 + q3))]) E.1 E.2.1 dX7_productOf_16 hl (by decide) rfl (fun ls hl => ?_)
  refine lv_aload_n E.1 E.2.1 dX7_productOf_18 rfl (lv_at hl 4 rfl) ?_
  obtain ⟨x11, σ10, c12, h⟩ := obn_r h
  refine c_S (As := [.ref (G.2.2.2 + q2)]) (rest := []) E hW (m_X7_spreadLow c12) kw_1158 ws_X7_spreadLow yo_X7_spreadLow ⟨rfl, rfl⟩ ⟨(Nat.le_of_ble_eq_true rfl), (Nat.le_of_ble_eq_true rfl)⟩ (lv_size hl) (Nat.le_of_ble_eq_true rfl) ⟨(Nat.le_of_ble_eq_true rfl), (Nat.le_of_ble_eq_true rfl)⟩ rfl dX7_productOf_19 (fun H locs hW => ?_)
  refine W.eq (g2 := F0 m 22 ls [.long x11]) rfl ?_
  refine lv_lstore (lv' := [(8, .long x11), (6, .long x8), (4, .long x5), (0, .ref (G.2.2.2 + q0)), (1, .ref (G.2.2.2 + q1)), (2, .ref (G.2.2.2 + q2)), (3, .ref (G.2.2.2 + q3))]) E.1 E.2.1 dX7_productOf_22 hl (by decide) rfl (fun ls hl => ?_)
  refine lv_aload_n E.1 E.2.1 dX7_productOf_24 rfl (lv_at hl 5 rfl) ?_
  obtain ⟨x14, σ13, c15, h⟩ := obn_r h
  refine c_S (As := [.ref (G.2.2.2 + q2)]) (rest := []) E hW (m_X7_spreadHigh c15) kw_1162 ws_X7_spreadHigh yo_X7_spreadHigh ⟨rfl, rfl⟩ ⟨(Nat.le_of_ble_eq_true rfl), (Nat.le_of_ble_eq_true rfl)⟩ (lv_size hl) (Nat.le_of_ble_eq_true rfl) ⟨(Nat.le_of_ble_eq_true rfl), (Nat.le_of_ble_eq_true rfl)⟩ rfl dX7_productOf_25 (fun H locs hW => ?_)
  refine W.eq (g2 := F0 m 28 ls [.long x14]) rfl ?_
  refine lv_lstore (lv' := [(10, .long x14), (8, .long x11), (6, .long x8), (4, .long x5), (0, .ref (G.2.2.2 + q0)), (1, .ref (G.2.2.2 + q1)), (2, .ref (G.2.2.2 + q2)), (3, .ref (G.2.2.2 + q3))]) E.1 E.2.1 dX7_productOf_28 hl (by decide) rfl (fun ls hl => ?_)
  refine lv_lconst (v := (0 : Int64)) E.1 E.2.1 dX7_productOf_30 (by decide) ?_
  refine lv_lstore (lv' := [(12, .long (0 : Int64)), (10, .long x14), (8, .long x11), (6, .long x8), (4, .long x5), (0, .ref (G.2.2.2 + q0)), (1, .ref (G.2.2.2 + q1)), (2, .ref (G.2.2.2 + q2)), (3, .ref (G.2.2.2 + q3))]) E.1 E.2.1 dX7_productOf_31 hl (by decide) rfl (fun ls hl => ?_)
  refine lv_lconst (v := (0 : Int64)) E.1 E.2.1 dX7_productOf_33 (by decide) ?_
  refine lv_lstore (lv' := [(14, .long (0 : Int64)), (12, .long (0 : Int64)), (10, .long x14), (8, .long x11), (6, .long x8), (4, .long x5), (0, .ref (G.2.2.2 + q0)), (1, .ref (G.2.2.2 + q1)), (2, .ref (G.2.2.2 + q2)), (3, .ref (G.2.2.2 + q3))]) E.1 E.2.1 dX7_productOf_34 hl (by decide) rfl (fun ls hl => ?_)
  refine lv_aload_n E.1 E.2.1 dX7_productOf_36 rfl (lv_at hl 6 rfl) ?_
  refine gf_X7_32 E hW g1 dX7_productOf_37 ?_
  obtain ⟨_r, σ16, c17, h⟩ := obn_r h
  refine c_S (As := [.ref (G.2.2.2 + (rR q0 13))]) (rest := []) E hW (m_X7_clearRow c17) kw_1066 ws_X7_clearRow yo_X7_clearRow ⟨rfl, rfl⟩ ⟨(Nat.le_of_ble_eq_true rfl), (Nat.le_of_ble_eq_true rfl)⟩ (lv_size hl) (Nat.le_of_ble_eq_true rfl) ⟨(Nat.le_of_ble_eq_true rfl), (Nat.le_of_ble_eq_true rfl)⟩ rfl dX7_productOf_40 (fun H locs hW => ?_)
  refine W.eq (g2 := F0 m 43 ls []) rfl ?_
  refine lv_iconst (v := (0 : Int32)) E.1 E.2.1 dX7_productOf_43 (by decide) ?_
  refine lv_istore (lv' := [(16, .int (0 : Int32)), (14, .long (0 : Int64)), (12, .long (0 : Int64)), (10, .long x14), (8, .long x11), (6, .long x8), (4, .long x5), (0, .ref (G.2.2.2 + q0)), (1, .ref (G.2.2.2 + q1)), (2, .ref (G.2.2.2 + q2)), (3, .ref (G.2.2.2 + q3))]) E.1 E.2.1 dX7_productOf_44 hl (by decide) rfl (fun ls hl => ?_)
  refine L_X7_productOf_46 E hr hlk ?_ _ _ _ _ _ _ _ _ _ _ _ _ _ _ _ _ h hW (lv_sub hl [7, 8, 9, 10, 6, 5, 4, 3, 2, 1, 0] rfl)
  · intro q31 q32 q33 q34 x35 x36 x37 x38 x39 x40 σ30 H locs ls h hW hl
    refine lv_lload E.1 E.2.1 dX7_productOf_210 (lv_at hl 8 rfl) ?_
    refine lv_lload E.1 E.2.1 dX7_productOf_212 (lv_at hl 4 rfl) ?_
    refine lv_lload E.1 E.2.1 dX7_productOf_214 (lv_at hl 5 rfl) ?_
    refine lv_aload_n E.1 E.2.1 dX7_productOf_216 rfl (lv_at hl 2 rfl) ?_
    refine lv_bipush (v := (10 : Int32)) E.1 E.2.1 dX7_productOf_217 (by decide) ?_
    obtain ⟨g135, h⟩ := gd_r h
    refine r_lald E hW (pr_eq g135.1) g135.2 dX7_productOf_219 ?_
    refine lv_aload_n E.1 E.2.1 dX7_productOf_220 rfl (lv_at hl 2 rfl) ?_
    refine lv_bipush (v := (11 : Int32)) E.1 E.2.1 dX7_productOf_221 (by decide) ?_
    obtain ⟨g136, h⟩ := gd_r h
    refine r_lald E hW (pr_eq g136.1) g136.2 dX7_productOf_223 ?_
    obtain ⟨x138, σ137, c139, h⟩ := obn_r h
    refine c_S (As := [.long x35, .long x36, .long (σ30.2 q33 (10 : Int32).toNatClampNeg), .long (σ30.2 q33 (11 : Int32).toNatClampNeg)]) (rest := [.long x39]) E hW (m_X7_leastProduct c139) kw_1173 ws_X7_leastProduct yo_X7_leastProduct ⟨rfl, rfl⟩ ⟨(Nat.le_of_ble_eq_true rfl), (Nat.le_of_ble_eq_true rfl)⟩ (lv_size hl) (Nat.le_of_ble_eq_true rfl) ⟨(Nat.le_of_ble_eq_true rfl), (Nat.le_of_ble_eq_true rfl)⟩ rfl dX7_productOf_224 (fun H locs hW => ?_)
    refine W.eq (g2 := F0 m 227 ls [.long x138, .long x39]) rfl ?_
    refine lv_aload_n E.1 E.2.1 dX7_productOf_227 rfl (lv_at hl 1 rfl) ?_
    refine lv_bipush (v := (10 : Int32)) E.1 E.2.1 dX7_productOf_228 (by decide) ?_
    obtain ⟨g140, h⟩ := gd_r h
    refine r_lald E hW (pr_eq g140.1) g140.2 dX7_productOf_230 ?_
    refine lv_aload_n E.1 E.2.1 dX7_productOf_231 rfl (lv_at hl 1 rfl) ?_
    refine lv_bipush (v := (11 : Int32)) E.1 E.2.1 dX7_productOf_232 (by decide) ?_
    obtain ⟨g141, h⟩ := gd_r h
    refine r_lald E hW (pr_eq g141.1) g141.2 dX7_productOf_234 ?_
    refine lv_lload E.1 E.2.1 dX7_productOf_235 (lv_at hl 6 rfl) ?_
    refine lv_lload E.1 E.2.1 dX7_productOf_237 (lv_at hl 7 rfl) ?_
    obtain ⟨x143, σ142, c144, h⟩ := obn_r h
    refine c_S (As := [.long (σ137.2 q32 (10 : Int32).toNatClampNeg), .long (σ137.2 q32 (11 : Int32).toNatClampNeg), .long x37, .long x38]) (rest := [.long x138, .long x39]) E hW (m_X7_leastProduct c144) kw_1173 ws_X7_leastProduct yo_X7_leastProduct ⟨rfl, rfl⟩ ⟨(Nat.le_of_ble_eq_true rfl), (Nat.le_of_ble_eq_true rfl)⟩ (lv_size hl) (Nat.le_of_ble_eq_true rfl) ⟨(Nat.le_of_ble_eq_true rfl), (Nat.le_of_ble_eq_true rfl)⟩ rfl dX7_productOf_239 (fun H locs hW => ?_)
    refine W.eq (g2 := F0 m 242 ls [.long x143, .long x138, .long x39]) rfl ?_
    refine lv_ladd E.1 E.2.1 dX7_productOf_242 ?_
    refine lv_aload_n E.1 E.2.1 dX7_productOf_243 rfl (lv_at hl 1 rfl) ?_
    refine lv_bipush (v := (10 : Int32)) E.1 E.2.1 dX7_productOf_244 (by decide) ?_
    refine r_lald E hW (pr_eq g140.1) g140.2 dX7_productOf_246 ?_
    refine lv_aload_n E.1 E.2.1 dX7_productOf_247 rfl (lv_at hl 1 rfl) ?_
    refine lv_bipush (v := (11 : Int32)) E.1 E.2.1 dX7_productOf_248 (by decide) ?_
    refine r_lald E hW (pr_eq g141.1) g141.2 dX7_productOf_250 ?_
    refine lv_aload_n E.1 E.2.1 dX7_productOf_251 rfl (lv_at hl 2 rfl) ?_
    refine lv_bipush (v := (10 : Int32)) E.1 E.2.1 dX7_productOf_252 (by decide) ?_
    refine r_lald E hW (pr_eq g135.1) g135.2 dX7_productOf_254 ?_
    refine lv_aload_n E.1 E.2.1 dX7_productOf_255 rfl (lv_at hl 2 rfl) ?_
    refine lv_bipush (v := (11 : Int32)) E.1 E.2.1 dX7_productOf_256 (by decide) ?_
    refine r_lald E hW (pr_eq g136.1) g136.2 dX7_productOf_258 ?_
    obtain ⟨x146, σ145, c147, h⟩ := obn_r h
    refine c_S (As := [.long (σ142.2 q32 (10 : Int32).toNatClampNeg), .long (σ142.2 q32 (11 : Int32).toNatClampNeg), .long (σ142.2 q33 (10 : Int32).toNatClampNeg), .long (σ142.2 q33 (11 : Int32).toNatClampNeg)]) (rest := [.long (x138 + x143), .long x39]) E hW (m_X7_leastProduct c147) kw_1173 ws_X7_leastProduct yo_X7_leastProduct ⟨rfl, rfl⟩ ⟨(Nat.le_of_ble_eq_true rfl), (Nat.le_of_ble_eq_true rfl)⟩ (lv_size hl) (Nat.le_of_ble_eq_true rfl) ⟨(Nat.le_of_ble_eq_true rfl), (Nat.le_of_ble_eq_true rfl)⟩ rfl dX7_productOf_259 (fun H locs hW => ?_)
    refine W.eq (g2 := F0 m 262 ls [.long x146, .long (x138 + x143), .long x39]) rfl ?_
    refine lv_ladd E.1 E.2.1 dX7_productOf_262 ?_
    refine lv_ladd E.1 E.2.1 dX7_productOf_263 ?_
    refine lv_topl (fun x148 ex148 => ?_)
    have h := bnd_r ex148 h
    refine lv_lstore (lv' := [(12, .long x148), (0, .ref (G.2.2.2 + q31)), (1, .ref (G.2.2.2 + q32)), (2, .ref (G.2.2.2 + q33)), (3, .ref (G.2.2.2 + q34)), (4, .long x35), (6, .long x36), (8, .long x37), (10, .long x38), (14, .long x40)]) E.1 E.2.1 dX7_productOf_264 hl (by decide) rfl (fun ls hl => ?_)
    refine lv_lload E.1 E.2.1 dX7_productOf_266 (lv_at hl 9 rfl) ?_
    refine lv_lload E.1 E.2.1 dX7_productOf_268 (lv_at hl 5 rfl) ?_
    refine lv_lload E.1 E.2.1 dX7_productOf_270 (lv_at hl 6 rfl) ?_
    refine lv_aload_n E.1 E.2.1 dX7_productOf_272 rfl (lv_at hl 3 rfl) ?_
    refine lv_bipush (v := (10 : Int32)) E.1 E.2.1 dX7_productOf_273 (by decide) ?_
    refine r_lald E hW (pr_eq g135.1) g135.2 dX7_productOf_275 ?_
    refine lv_aload_n E.1 E.2.1 dX7_productOf_276 rfl (lv_at hl 3 rfl) ?_
    refine lv_bipush (v := (11 : Int32)) E.1 E.2.1 dX7_productOf_277 (by decide) ?_
    refine r_lald E hW (pr_eq g136.1) g136.2 dX7_productOf_279 ?_
    obtain ⟨x150, σ149, c151, h⟩ := obn_r h
    refine c_S (As := [.long x35, .long x36, .long (σ145.2 q33 (10 : Int32).toNatClampNeg), .long (σ145.2 q33 (11 : Int32).toNatClampNeg)]) (rest := [.long x40]) E hW (m_X7_greatestProduct c151) kw_1176 ws_X7_greatestProduct yo_X7_greatestProduct ⟨rfl, rfl⟩ ⟨(Nat.le_of_ble_eq_true rfl), (Nat.le_of_ble_eq_true rfl)⟩ (lv_size hl) (Nat.le_of_ble_eq_true rfl) ⟨(Nat.le_of_ble_eq_true rfl), (Nat.le_of_ble_eq_true rfl)⟩ rfl dX7_productOf_280 (fun H locs hW => ?_)
    refine W.eq (g2 := F0 m 283 ls [.long x150, .long x40]) rfl ?_
    refine lv_aload_n E.1 E.2.1 dX7_productOf_283 rfl (lv_at hl 2 rfl) ?_
    refine lv_bipush (v := (10 : Int32)) E.1 E.2.1 dX7_productOf_284 (by decide) ?_
    refine r_lald E hW (pr_eq g140.1) g140.2 dX7_productOf_286 ?_
    refine lv_aload_n E.1 E.2.1 dX7_productOf_287 rfl (lv_at hl 2 rfl) ?_
    refine lv_bipush (v := (11 : Int32)) E.1 E.2.1 dX7_productOf_288 (by decide) ?_
    refine r_lald E hW (pr_eq g141.1) g141.2 dX7_productOf_290 ?_
    refine lv_lload E.1 E.2.1 dX7_productOf_291 (lv_at hl 7 rfl) ?_
    refine lv_lload E.1 E.2.1 dX7_productOf_293 (lv_at hl 8 rfl) ?_
    obtain ⟨x153, σ152, c154, h⟩ := obn_r h
    refine c_S (As := [.long (σ149.2 q32 (10 : Int32).toNatClampNeg), .long (σ149.2 q32 (11 : Int32).toNatClampNeg), .long x37, .long x38]) (rest := [.long x150, .long x40]) E hW (m_X7_greatestProduct c154) kw_1176 ws_X7_greatestProduct yo_X7_greatestProduct ⟨rfl, rfl⟩ ⟨(Nat.le_of_ble_eq_true rfl), (Nat.le_of_ble_eq_true rfl)⟩ (lv_size hl) (Nat.le_of_ble_eq_true rfl) ⟨(Nat.le_of_ble_eq_true rfl), (Nat.le_of_ble_eq_true rfl)⟩ rfl dX7_productOf_295 (fun H locs hW => ?_)
    refine W.eq (g2 := F0 m 298 ls [.long x153, .long x150, .long x40]) rfl ?_
    refine lv_ladd E.1 E.2.1 dX7_productOf_298 ?_
    refine lv_aload_n E.1 E.2.1 dX7_productOf_299 rfl (lv_at hl 2 rfl) ?_
    refine lv_bipush (v := (10 : Int32)) E.1 E.2.1 dX7_productOf_300 (by decide) ?_
    refine r_lald E hW (pr_eq g140.1) g140.2 dX7_productOf_302 ?_
    refine lv_aload_n E.1 E.2.1 dX7_productOf_303 rfl (lv_at hl 2 rfl) ?_
    refine lv_bipush (v := (11 : Int32)) E.1 E.2.1 dX7_productOf_304 (by decide) ?_
    refine r_lald E hW (pr_eq g141.1) g141.2 dX7_productOf_306 ?_
    refine lv_aload_n E.1 E.2.1 dX7_productOf_307 rfl (lv_at hl 3 rfl) ?_
    refine lv_bipush (v := (10 : Int32)) E.1 E.2.1 dX7_productOf_308 (by decide) ?_
    refine r_lald E hW (pr_eq g135.1) g135.2 dX7_productOf_310 ?_
    refine lv_aload_n E.1 E.2.1 dX7_productOf_311 rfl (lv_at hl 3 rfl) ?_
    refine lv_bipush (v := (11 : Int32)) E.1 E.2.1 dX7_productOf_312 (by decide) ?_
    refine r_lald E hW (pr_eq g136.1) g136.2 dX7_productOf_314 ?_
    obtain ⟨x156, σ155, c157, h⟩ := obn_r h
    refine c_S (As := [.long (σ152.2 q32 (10 : Int32).toNatClampNeg), .long (σ152.2 q32 (11 : Int32).toNatClampNeg), .long (σ152.2 q33 (10 : Int32).toNatClampNeg), .long (σ152.2 q33 (11 : Int32).toNatClampNeg)]) (rest := [.long (x150 + x153), .long x40]) E hW (m_X7_greatestProduct c157) kw_1176 ws_X7_greatestProduct yo_X7_greatestProduct ⟨rfl, rfl⟩ ⟨(Nat.le_of_ble_eq_true rfl), (Nat.le_of_ble_eq_true rfl)⟩ (lv_size hl) (Nat.le_of_ble_eq_true rfl) ⟨(Nat.le_of_ble_eq_true rfl), (Nat.le_of_ble_eq_true rfl)⟩ rfl dX7_productOf_315 (fun H locs hW => ?_)
    refine W.eq (g2 := F0 m 318 ls [.long x156, .long (x150 + x153), .long x40]) rfl ?_
    refine lv_ladd E.1 E.2.1 dX7_productOf_318 ?_
    refine lv_ladd E.1 E.2.1 dX7_productOf_319 ?_
    refine lv_topl (fun x158 ex158 => ?_)
    have h := bnd_r ex158 h
    refine lv_lstore (lv' := [(14, .long x158), (12, .long x148), (0, .ref (G.2.2.2 + q31)), (1, .ref (G.2.2.2 + q32)), (2, .ref (G.2.2.2 + q33)), (3, .ref (G.2.2.2 + q34)), (4, .long x35), (6, .long x36), (8, .long x37), (10, .long x38)]) E.1 E.2.1 dX7_productOf_320 hl (by decide) rfl (fun ls hl => ?_)
    refine lv_aload_n E.1 E.2.1 dX7_productOf_322 rfl (lv_at hl 2 rfl) ?_
    obtain ⟨g159, h⟩ := gd_r h
    refine gf_X7_32 E hW g159 dX7_productOf_323 ?_
    refine lv_bipush (v := (10 : Int32)) E.1 E.2.1 dX7_productOf_326 (by decide) ?_
    refine lv_dup2_11 E.1 E.2.1 dX7_productOf_328 rfl rfl ?_
    obtain ⟨g160, h⟩ := gd_r h
    refine r_lald E hW (pr_eq g160.1) g160.2 dX7_productOf_329 ?_
    refine lv_lload E.1 E.2.1 dX7_productOf_330 (lv_at hl 1 rfl) ?_
    refine lv_ldc2 (v := (1000 : Int64)) E.1 E.2.1 E.2.2.2.1 (E.wd kw_1096) dX7_productOf_332 ?_
    obtain ⟨x162, σ161, c163, h⟩ := obn_r h
    refine c_S (As := [.long x148, .long (1000 : Int64)]) (rest := [.long (σ155.2 (rR q31 13) (10 : Int32).toNatClampNeg), .int (10 : Int32), .ref (G.2.2.2 + (rR q31 13))]) E hW (m_X7_down c163) kw_1119 ws_X7_down yo_X7_down ⟨rfl, rfl⟩ ⟨(Nat.le_of_ble_eq_true rfl), (Nat.le_of_ble_eq_true rfl)⟩ (lv_size hl) (Nat.le_of_ble_eq_true rfl) ⟨(Nat.le_of_ble_eq_true rfl), (Nat.le_of_ble_eq_true rfl)⟩ rfl dX7_productOf_335 (fun H locs hW => ?_)
    refine W.eq (g2 := F0 m 338 ls [.long x162, .long (σ155.2 (rR q31 13) (10 : Int32).toNatClampNeg), .int (10 : Int32), .ref (G.2.2.2 + (rR q31 13))]) rfl ?_
    refine lv_ladd E.1 E.2.1 dX7_productOf_338 ?_
    refine r_last E hW (pr_eq g160.1) g160.2 dX7_productOf_339 (fun σ164 H locs eσ164 hW => ?_)
    have h := bnd_r eσ164 h
    refine lv_aload_n E.1 E.2.1 dX7_productOf_340 rfl (lv_at hl 2 rfl) ?_
    refine gf_X7_32 E hW g159 dX7_productOf_341 ?_
    refine lv_bipush (v := (11 : Int32)) E.1 E.2.1 dX7_productOf_344 (by decide) ?_
    refine lv_dup2_11 E.1 E.2.1 dX7_productOf_346 rfl rfl ?_
    obtain ⟨g165, h⟩ := gd_r h
    refine r_lald E hW (pr_eq g165.1) g165.2 dX7_productOf_347 ?_
    refine lv_lload E.1 E.2.1 dX7_productOf_348 (lv_at hl 0 rfl) ?_
    refine lv_ldc2 (v := (1000 : Int64)) E.1 E.2.1 E.2.2.2.1 (E.wd kw_1096) dX7_productOf_350 ?_
    obtain ⟨x167, σ166, c168, h⟩ := obn_r h
    refine c_S (As := [.long x158, .long (1000 : Int64)]) (rest := [.long (σ164.2 (rR q31 13) (11 : Int32).toNatClampNeg), .int (11 : Int32), .ref (G.2.2.2 + (rR q31 13))]) E hW (m_X7_up c168) kw_1125 ws_X7_up yo_X7_up ⟨rfl, rfl⟩ ⟨(Nat.le_of_ble_eq_true rfl), (Nat.le_of_ble_eq_true rfl)⟩ (lv_size hl) (Nat.le_of_ble_eq_true rfl) ⟨(Nat.le_of_ble_eq_true rfl), (Nat.le_of_ble_eq_true rfl)⟩ rfl dX7_productOf_353 (fun H locs hW => ?_)
    refine W.eq (g2 := F0 m 356 ls [.long x167, .long (σ164.2 (rR q31 13) (11 : Int32).toNatClampNeg), .int (11 : Int32), .ref (G.2.2.2 + (rR q31 13))]) rfl ?_
    refine lv_ladd E.1 E.2.1 dX7_productOf_356 ?_
    refine r_last E hW (pr_eq g165.1) g165.2 dX7_productOf_357 (fun σ169 H locs eσ169 hW => ?_)
    have h := bnd_r eσ169 h
    refine lv_aload_n E.1 E.2.1 dX7_productOf_358 rfl (lv_at hl 2 rfl) ?_
    refine gf_X7_32 E hW g159 dX7_productOf_359 ?_
    refine lv_aload_n E.1 E.2.1 dX7_productOf_362 rfl (lv_at hl 5 rfl) ?_
    obtain ⟨_r, σ170, c171, h⟩ := obn_r h
    refine c_S (As := [.ref (G.2.2.2 + (rR q31 13)), .ref (G.2.2.2 + q34)]) (rest := []) E hW (m_X7_copyRow c171) kw_1089 ws_X7_copyRow yo_X7_copyRow ⟨rfl, rfl⟩ ⟨(Nat.le_of_ble_eq_true rfl), (Nat.le_of_ble_eq_true rfl)⟩ (lv_size hl) (Nat.le_of_ble_eq_true rfl) ⟨(Nat.le_of_ble_eq_true rfl), (Nat.le_of_ble_eq_true rfl)⟩ rfl dX7_productOf_363 (fun H locs hW => ?_)
    refine W.eq (g2 := F0 m 366 ls []) rfl ?_
    refine lv_aload_n E.1 E.2.1 dX7_productOf_366 rfl (lv_at hl 5 rfl) ?_
    obtain ⟨x173, σ172, c174, h⟩ := obn_r h
    refine c_S (As := [.ref (G.2.2.2 + q34)]) (rest := []) E hW (m_X7_isSmall c174) kw_1131 ws_X7_isSmall yo_X7_isSmall ⟨rfl, rfl⟩ ⟨(Nat.le_of_ble_eq_true rfl), (Nat.le_of_ble_eq_true rfl)⟩ (lv_size hl) (Nat.le_of_ble_eq_true rfl) ⟨(Nat.le_of_ble_eq_true rfl), (Nat.le_of_ble_eq_true rfl)⟩ rfl dX7_productOf_367 (fun H locs hW => ?_)
    refine W.eq (g2 := F0 m 370 ls [.int x173]) rfl ?_
    obtain ⟨g175, h⟩ := gd_r h
    exact e_z E hW hr hlk g175 h dX7_productOf_370
set_option maxHeartbeats 4000000 in
set_option maxRecDepth 100000 in
theorem L_X7_compositionOf_75 {p : Program} {l : Launch} {e : Env} {s : State} {m : MethodId} {args : Array Value} {below : List Frame} {meth : Method} {c : Code} {G : GP} {A0 : Nat → Prop} {σ0 : St} {r0 : Int32} {K111 : Nat → Nat → Nat → Nat → Nat → Int32 → Int32 → St → Option (Int32 × St)} (E : En p m c s cX7_compositionOf 8 yX7_compositionOf.cls G A0) (hr : meth.sig.returnType = (some .int)) (hlk : meth.locks = false) (hK111 : ∀ (q40 : Nat) (q41 : Nat) (q42 : Nat) (q43 : Nat) (q44 : Nat) (x45 : Int32) (x46 : Int32) (σ39 : St) (H : Heap) (locs : List Loc) (ls : Array Slot), K111 q40 q41 q42 q43 q44 x45 x46 σ39 = some (r0, σ0) → Wo G skR A0 s σ39 H locs → lv_has ls 8 [(0, .ref (G.2.2.2 + q40)), (1, .ref (G.2.2.2 + q41)), (2, .ref (G.2.2.2 + q42)), (3, .ref (G.2.2.2 + q43)), (4, .ref (G.2.2.2 + q44)), (5, .int x45), (6, .int x46)] → W p l e ({ frames := 5, cells := 0, slots := 0, locals := 131 } : Room) s m args below meth c H locs 0 0 (MQ below (QO (PoC G skR σ0) A0 (some (.int r0))) args s 0 0 A0) (F0 m 111 ls [])) : ∀ (n47 : Nat) (q31 : Nat) (q32 : Nat) (q33 : Nat) (q34 : Nat) (q35 : Nat) (x36 : Int32) (x37 : Int32) (x38 : Int32) (σ30 : St) (H : Heap) (locs : List Loc) (ls : Array Slot), f_X7_compositionOf_L75 K111 n47 q31 q32 q33 q34 q35 x36 x37 x38 σ30 = some (r0, σ0) → Wo G skR A0 s σ30 H locs → lv_has ls 8 [(0, .ref (G.2.2.2 + q31)), (1, .ref (G.2.2.2 + q32)), (2, .ref (G.2.2.2 + q33)), (3, .ref (G.2.2.2 + q34)), (4, .ref (G.2.2.2 + q35)), (5, .int x36), (6, .int x37), (7, .int x38)] → W p l e ({ frames := 5, cells := 0, slots := 0, locals := 131 } : Room) s m args below meth c H locs 0 0 (MQ below (QO (PoC G skR σ0) A0 (some (.int r0))) args s 0 0 A0) (F0 m 75 ls []) := by
  intro n47
  induction n47 with
  | zero =>
    intro q31 q32 q33 q34 q35 x36 x37 x38 σ30 H locs ls h hW hl
    rw [f_X7_compositionOf_L75] at h
    cases h
  | succ n47 ih =>
    intro q31 q32 q33 q34 q35 x36 x37 x38 σ30 H locs ls h hW hl
    rw [f_X7_compositionOf_L75] at h
    refine lv_iload E.1 E.2.1 dX7_compositionOf_75 (lv_at hl 7 rfl) ?_
    refine lv_iload E.1 E.2.1 dX7_compositionOf_77 (lv_at hl 6 rfl) ?_
    obtain ⟨x49, σ48, c50, h⟩ := obn_r h
    refine c_S (As := [.int x37]) (rest := [.int x38]) E hW (m_X7_iOf c50) kw_1107 ws_X7_iOf yo_X7_iOf ⟨rfl, rfl⟩ ⟨(Nat.le_of_ble_eq_true rfl), (Nat.le_of_ble_eq_true rfl)⟩ (lv_size hl) (Nat.le_of_ble_eq_true rfl) ⟨(Nat.le_of_ble_eq_true rfl), (Nat.le_of_ble_eq_true rfl)⟩ rfl dX7_compositionOf_79 (fun H locs hW => ?_)
    refine W.eq (g2 := F0 m 82 ls [.int x49, .int x38]) rfl ?_
    refine lv_icmp_ge (tgt := 111) E.1 E.2.1 dX7_compositionOf_82 (by decide) (fun g => ?_) (fun g => ?_)
    · have h := ifp h g
      exact hK111 _ _ _ _ _ _ _ _ _ _ _ h hW (lv_sub hl [0, 1, 2, 3, 4, 5, 6] rfl)
    · have h := ifn h g
      refine lv_iload E.1 E.2.1 dX7_compositionOf_85 (lv_at hl 5 rfl) ?_
      refine lv_if_eq (tgt := 111) E.1 E.2.1 dX7_compositionOf_87 (by decide) (fun g => ?_) (fun g => ?_)
      · have h := ifp h g
        exact hK111 _ _ _ _ _ _ _ _ _ _ _ h hW (lv_sub hl [0, 1, 2, 3, 4, 5, 6] rfl)
      · have h := ifn h g
        refine lv_aload_n E.1 E.2.1 dX7_compositionOf_90 rfl (lv_at hl 0 rfl) ?_
        refine lv_aload_n E.1 E.2.1 dX7_compositionOf_91 rfl (lv_at hl 0 rfl) ?_
        obtain ⟨g51, h⟩ := gd_r h
        refine gf_X7_38 E hW g51 dX7_compositionOf_92 ?_
        refine lv_aload_n E.1 E.2.1 dX7_compositionOf_95 rfl (lv_at hl 2 rfl) ?_
        refine lv_aload_n E.1 E.2.1 dX7_compositionOf_96 rfl (lv_at hl 0 rfl) ?_
        refine gf_X7_38 E hW g51 dX7_compositionOf_97 ?_
        obtain ⟨x53, σ52, c54, h⟩ := obn_r h
        refine c_V (As := [.ref (G.2.2.2 + (rR q31 15)), .ref (G.2.2.2 + q33), .ref (G.2.2.2 + (rR q31 15))]) (rest := []) E hW (m_X7_productOf c54) g51 rfl kw_1165 wv_X7_productOf yo_X7_productOf ⟨rfl, rfl⟩ ⟨(Nat.le_of_ble_eq_true rfl), (Nat.le_of_ble_eq_true rfl)⟩ (lv_size hl) (Nat.le_of_ble_eq_true rfl) ⟨(Nat.le_of_ble_eq_true rfl), (Nat.le_of_ble_eq_true rfl)⟩ rfl dX7_compositionOf_100 (fun H locs hW => ?_)
        refine W.eq (g2 := F0 m 103 ls [.int x53]) rfl ?_
        refine lv_istore (lv' := [(5, .int x53), (0, .ref (G.2.2.2 + q31)), (1, .ref (G.2.2.2 + q32)), (2, .ref (G.2.2.2 + q33)), (3, .ref (G.2.2.2 + q34)), (4, .ref (G.2.2.2 + q35)), (6, .int x37), (7, .int x38)]) E.1 E.2.1 dX7_compositionOf_103 hl (by decide) rfl (fun ls hl => ?_)
        obtain ⟨x55, ex55⟩ : ∃ y : Int32, y = x38 + (1 : Int32) := ⟨_, rfl⟩
        have h := bnd_r ex55 h
        refine lv_iinc (v := x55) (lv' := [(7, .int x55), (5, .int x53), (0, .ref (G.2.2.2 + q31)), (1, .ref (G.2.2.2 + q32)), (2, .ref (G.2.2.2 + q33)), (3, .ref (G.2.2.2 + q34)), (4, .ref (G.2.2.2 + q35)), (6, .int x37)]) E.1 E.2.1 dX7_compositionOf_105 hl (k := 7) rfl (by rw [ex55]; rfl) (by decide) rfl (fun ls hl => ?_)
        refine lv_goto (tgt := 75) E.1 E.2.1 dX7_compositionOf_108 (by decide) ?_
        exact ih _ _ _ _ _ _ _ _ _ _ _ _ h hW (lv_sub hl [2, 3, 4, 5, 6, 1, 7, 0] rfl)
set_option maxHeartbeats 4000000 in
set_option maxRecDepth 100000 in
theorem L_X7_compositionOf_114 {p : Program} {l : Launch} {e : Env} {s : State} {m : MethodId} {args : Array Value} {below : List Frame} {meth : Method} {c : Code} {G : GP} {A0 : Nat → Prop} {σ0 : St} {r0 : Int32} {K150 : Nat → Nat → Nat → Nat → Nat → Int32 → Int32 → St → Option (Int32 × St)} (E : En p m c s cX7_compositionOf 8 yX7_compositionOf.cls G A0) (hr : meth.sig.returnType = (some .int)) (hlk : meth.locks = false) (hK150 : ∀ (q66 : Nat) (q67 : Nat) (q68 : Nat) (q69 : Nat) (q70 : Nat) (x71 : Int32) (x72 : Int32) (σ65 : St) (H : Heap) (locs : List Loc) (ls : Array Slot), K150 q66 q67 q68 q69 q70 x71 x72 σ65 = some (r0, σ0) → Wo G skR A0 s σ65 H locs → lv_has ls 8 [(0, .ref (G.2.2.2 + q66)), (1, .ref (G.2.2.2 + q67)), (2, .ref (G.2.2.2 + q68)), (3, .ref (G.2.2.2 + q69)), (4, .ref (G.2.2.2 + q70)), (5, .int x71), (6, .int x72)] → W p l e ({ frames := 5, cells := 0, slots := 0, locals := 131 } : Room) s m args below meth c H locs 0 0 (MQ below (QO (PoC G skR σ0) A0 (some (.int r0))) args s 0 0 A0) (F0 m 150 ls [])) : ∀ (n73 : Nat) (q57 : Nat) (q58 : Nat) (q59 : Nat) (q60 : Nat) (q61 : Nat) (x62 : Int32) (x63 : Int32) (x64 : Int32) (σ56 : St) (H : Heap) (locs : List Loc) (ls : Array Slot), f_X7_compositionOf_L114 K150 n73 q57 q58 q59 q60 q61 x62 x63 x64 σ56 = some (r0, σ0) → Wo G skR A0 s σ56 H locs → lv_has ls 8 [(0, .ref (G.2.2.2 + q57)), (1, .ref (G.2.2.2 + q58)), (2, .ref (G.2.2.2 + q59)), (3, .ref (G.2.2.2 + q60)), (4, .ref (G.2.2.2 + q61)), (5, .int x62), (6, .int x63), (7, .int x64)] → W p l e ({ frames := 5, cells := 0, slots := 0, locals := 131 } : Room) s m args below meth c H locs 0 0 (MQ below (QO (PoC G skR σ0) A0 (some (.int r0))) args s 0 0 A0) (F0 m 114 ls []) := by
  intro n73
  induction n73 with
  | zero =>
    intro q57 q58 q59 q60 q61 x62 x63 x64 σ56 H locs ls h hW hl
    rw [f_X7_compositionOf_L114] at h
    cases h
  | succ n73 ih =>
    intro q57 q58 q59 q60 q61 x62 x63 x64 σ56 H locs ls h hW hl
    rw [f_X7_compositionOf_L114] at h
    refine lv_iload E.1 E.2.1 dX7_compositionOf_114 (lv_at hl 7 rfl) ?_
    refine lv_iload E.1 E.2.1 dX7_compositionOf_116 (lv_at hl 6 rfl) ?_
    obtain ⟨x75, σ74, c76, h⟩ := obn_r h
    refine c_S (As := [.int x63]) (rest := [.int x64]) E hW (m_X7_jOf c76) kw_1110 ws_X7_jOf yo_X7_jOf ⟨rfl, rfl⟩ ⟨(Nat.le_of_ble_eq_true rfl), (Nat.le_of_ble_eq_true rfl)⟩ (lv_size hl) (Nat.le_of_ble_eq_true rfl) ⟨(Nat.le_of_ble_eq_true rfl), (Nat.le_of_ble_eq_true rfl)⟩ rfl dX7_compositionOf_118 (fun H locs hW => ?_)
    refine W.eq (g2 := F0 m 121 ls [.int x75, .int x64]) rfl ?_
    refine lv_icmp_ge (tgt := 150) E.1 E.2.1 dX7_compositionOf_121 (by decide) (fun g => ?_) (fun g => ?_)
    · have h := ifp h g
      exact hK150 _ _ _ _ _ _ _ _ _ _ _ h hW (lv_sub hl [0, 1, 2, 3, 4, 5, 6] rfl)
    · have h := ifn h g
      refine lv_iload E.1 E.2.1 dX7_compositionOf_124 (lv_at hl 5 rfl) ?_
      refine lv_if_eq (tgt := 150) E.1 E.2.1 dX7_compositionOf_126 (by decide) (fun g => ?_) (fun g => ?_)
      · have h := ifp h g
        exact hK150 _ _ _ _ _ _ _ _ _ _ _ h hW (lv_sub hl [0, 1, 2, 3, 4, 5, 6] rfl)
      · have h := ifn h g
        refine lv_aload_n E.1 E.2.1 dX7_compositionOf_129 rfl (lv_at hl 0 rfl) ?_
        refine lv_aload_n E.1 E.2.1 dX7_compositionOf_130 rfl (lv_at hl 0 rfl) ?_
        obtain ⟨g77, h⟩ := gd_r h
        refine gf_X7_38 E hW g77 dX7_compositionOf_131 ?_
        refine lv_aload_n E.1 E.2.1 dX7_compositionOf_134 rfl (lv_at hl 3 rfl) ?_
        refine lv_aload_n E.1 E.2.1 dX7_compositionOf_135 rfl (lv_at hl 0 rfl) ?_
        refine gf_X7_38 E hW g77 dX7_compositionOf_136 ?_
        obtain ⟨x79, σ78, c80, h⟩ := obn_r h
        refine c_V (As := [.ref (G.2.2.2 + (rR q57 15)), .ref (G.2.2.2 + q60), .ref (G.2.2.2 + (rR q57 15))]) (rest := []) E hW (m_X7_productOf c80) g77 rfl kw_1165 wv_X7_productOf yo_X7_productOf ⟨rfl, rfl⟩ ⟨(Nat.le_of_ble_eq_true rfl), (Nat.le_of_ble_eq_true rfl)⟩ (lv_size hl) (Nat.le_of_ble_eq_true rfl) ⟨(Nat.le_of_ble_eq_true rfl), (Nat.le_of_ble_eq_true rfl)⟩ rfl dX7_compositionOf_139 (fun H locs hW => ?_)
        refine W.eq (g2 := F0 m 142 ls [.int x79]) rfl ?_
        refine lv_istore (lv' := [(5, .int x79), (0, .ref (G.2.2.2 + q57)), (1, .ref (G.2.2.2 + q58)), (2, .ref (G.2.2.2 + q59)), (3, .ref (G.2.2.2 + q60)), (4, .ref (G.2.2.2 + q61)), (6, .int x63), (7, .int x64)]) E.1 E.2.1 dX7_compositionOf_142 hl (by decide) rfl (fun ls hl => ?_)
        obtain ⟨x81, ex81⟩ : ∃ y : Int32, y = x64 + (1 : Int32) := ⟨_, rfl⟩
        have h := bnd_r ex81 h
        refine lv_iinc (v := x81) (lv' := [(7, .int x81), (5, .int x79), (0, .ref (G.2.2.2 + q57)), (1, .ref (G.2.2.2 + q58)), (2, .ref (G.2.2.2 + q59)), (3, .ref (G.2.2.2 + q60)), (4, .ref (G.2.2.2 + q61)), (6, .int x63)]) E.1 E.2.1 dX7_compositionOf_144 hl (k := 7) rfl (by rw [ex81]; rfl) (by decide) rfl (fun ls hl => ?_)
        refine lv_goto (tgt := 114) E.1 E.2.1 dX7_compositionOf_147 (by decide) ?_
        exact ih _ _ _ _ _ _ _ _ _ _ _ _ h hW (lv_sub hl [2, 3, 4, 5, 6, 1, 7, 0] rfl)
set_option maxHeartbeats 4000000 in
set_option maxRecDepth 100000 in
theorem L_X7_compositionOf_31 {p : Program} {l : Launch} {e : Env} {s : State} {m : MethodId} {args : Array Value} {below : List Frame} {meth : Method} {c : Code} {G : GP} {A0 : Nat → Prop} {σ0 : St} {r0 : Int32} {K187 : Nat → Nat → Nat → Int32 → St → Option (Int32 × St)} (E : En p m c s cX7_compositionOf 8 yX7_compositionOf.cls G A0) (hr : meth.sig.returnType = (some .int)) (hlk : meth.locks = false) (hK187 : ∀ (q19 : Nat) (q20 : Nat) (q21 : Nat) (x22 : Int32) (σ18 : St) (H : Heap) (locs : List Loc) (ls : Array Slot), K187 q19 q20 q21 x22 σ18 = some (r0, σ0) → Wo G skR A0 s σ18 H locs → lv_has ls 8 [(0, .ref (G.2.2.2 + q19)), (1, .ref (G.2.2.2 + q20)), (4, .ref (G.2.2.2 + q21)), (5, .int x22)] → W p l e ({ frames := 5, cells := 0, slots := 0, locals := 131 } : Room) s m args below meth c H locs 0 0 (MQ below (QO (PoC G skR σ0) A0 (some (.int r0))) args s 0 0 A0) (F0 m 187 ls [])) : ∀ (n23 : Nat) (q11 : Nat) (q12 : Nat) (q13 : Nat) (q14 : Nat) (q15 : Nat) (x16 : Int32) (x17 : Int32) (σ10 : St) (H : Heap) (locs : List Loc) (ls : Array Slot), f_X7_compositionOf_L31 K187 n23 q11 q12 q13 q14 q15 x16 x17 σ10 = some (r0, σ0) → Wo G skR A0 s σ10 H locs → lv_has ls 8 [(0, .ref (G.2.2.2 + q11)), (1, .ref (G.2.2.2 + q12)), (2, .ref (G.2.2.2 + q13)), (3, .ref (G.2.2.2 + q14)), (4, .ref (G.2.2.2 + q15)), (5, .int x16), (6, .int x17)] → W p l e ({ frames := 5, cells := 0, slots := 0, locals := 131 } : Room) s m args below meth c H locs 0 0 (MQ below (QO (PoC G skR σ0) A0 (some (.int r0))) args s 0 0 A0) (F0 m 31 ls []) := by
  intro n23
  induction n23 with
  | zero =>
    intro q11 q12 q13 q14 q15 x16 x17 σ10 H locs ls h hW hl
    rw [f_X7_compositionOf_L31] at h
    cases h
  | succ n23 ih =>
    intro q11 q12 q13 q14 q15 x16 x17 σ10 H locs ls h hW hl
    rw [f_X7_compositionOf_L31] at h
    refine lv_iload E.1 E.2.1 dX7_compositionOf_31 (lv_at hl 6 rfl) ?_
    refine lv_bipush (v := (10 : Int32)) E.1 E.2.1 dX7_compositionOf_33 (by decide) ?_
    refine lv_icmp_ge (tgt := 187) E.1 E.2.1 dX7_compositionOf_35 (by decide) (fun g => ?_) (fun g => ?_)
    · have h := ifp h g
      exact hK187 _ _ _ _ _ _ _ _ h hW (lv_sub hl [0, 1, 4, 5] rfl)
    · have h := ifn h g
      refine lv_iload E.1 E.2.1 dX7_compositionOf_38 (lv_at hl 5 rfl) ?_
      refine lv_if_eq (tgt := 187) E.1 E.2.1 dX7_compositionOf_40 (by decide) (fun g => ?_) (fun g => ?_)
      · have h := ifp h g
        exact hK187 _ _ _ _ _ _ _ _ h hW (lv_sub hl [0, 1, 4, 5] rfl)
      · have h := ifn h g
        refine lv_aload_n E.1 E.2.1 dX7_compositionOf_43 rfl (lv_at hl 1 rfl) ?_
        refine lv_iload E.1 E.2.1 dX7_compositionOf_44 (lv_at hl 6 rfl) ?_
        obtain ⟨g24, h⟩ := gd_r h
        refine r_lald E hW (pr_eq g24.1) g24.2 dX7_compositionOf_46 ?_
        refine lv_lconst (v := (0 : Int64)) E.1 E.2.1 dX7_compositionOf_47 (by decide) ?_
        refine r_lc_ne E dX7_compositionOf_48 dX7_compositionOf_49 (tgt := 55) (by decide) (fun g => ?_) (fun g => ?_)
        · have h := ifn h g
          refine lv_aload_n E.1 E.2.1 dX7_compositionOf_55 rfl (lv_at hl 0 rfl) ?_
          obtain ⟨g25, h⟩ := gd_r h
          refine gf_X7_38 E hW g25 dX7_compositionOf_56 ?_
          obtain ⟨_r, σ26, c27, h⟩ := obn_r h
          refine c_S (As := [.ref (G.2.2.2 + (rR q11 15))]) (rest := []) E hW (m_X7_clearRow c27) kw_1066 ws_X7_clearRow yo_X7_clearRow ⟨rfl, rfl⟩ ⟨(Nat.le_of_ble_eq_true rfl), (Nat.le_of_ble_eq_true rfl)⟩ (lv_size hl) (Nat.le_of_ble_eq_true rfl) ⟨(Nat.le_of_ble_eq_true rfl), (Nat.le_of_ble_eq_true rfl)⟩ rfl dX7_compositionOf_59 (fun H locs hW => ?_)
          refine W.eq (g2 := F0 m 62 ls []) rfl ?_
          refine lv_aload_n E.1 E.2.1 dX7_compositionOf_62 rfl (lv_at hl 0 rfl) ?_
          refine gf_X7_38 E hW g25 dX7_compositionOf_63 ?_
          refine lv_iconst (v := (0 : Int32)) E.1 E.2.1 dX7_compositionOf_66 (by decide) ?_
          refine lv_aload_n E.1 E.2.1 dX7_compositionOf_67 rfl (lv_at hl 1 rfl) ?_
          refine lv_iload E.1 E.2.1 dX7_compositionOf_68 (lv_at hl 6 rfl) ?_
          refine r_lald E hW (pr_eq g24.1) g24.2 dX7_compositionOf_70 ?_
          obtain ⟨g28, h⟩ := gd_r h
          refine r_last E hW (pr_eq g28.1) g28.2 dX7_compositionOf_71 (fun σ29 H locs eσ29 hW => ?_)
          have h := bnd_r eσ29 h
          refine lv_iconst (v := (0 : Int32)) E.1 E.2.1 dX7_compositionOf_72 (by decide) ?_
          refine lv_istore (lv' := [(7, .int (0 : Int32)), (0, .ref (G.2.2.2 + q11)), (1, .ref (G.2.2.2 + q12)), (2, .ref (G.2.2.2 + q13)), (3, .ref (G.2.2.2 + q14)), (4, .ref (G.2.2.2 + q15)), (5, .int x16), (6, .int x17)]) E.1 E.2.1 dX7_compositionOf_73 hl (by decide) rfl (fun ls hl => ?_)
          refine L_X7_compositionOf_75 E hr hlk ?_ _ _ _ _ _ _ _ _ _ _ _ _ _ h hW (lv_sub hl [1, 2, 3, 4, 5, 6, 7, 0] rfl)
          · intro q40 q41 q42 q43 q44 x45 x46 σ39 H locs ls h hW hl
            refine lv_iconst (v := (0 : Int32)) E.1 E.2.1 dX7_compositionOf_111 (by decide) ?_
            refine lv_istore (lv' := [(7, .int (0 : Int32)), (0, .ref (G.2.2.2 + q40)), (1, .ref (G.2.2.2 + q41)), (2, .ref (G.2.2.2 + q42)), (3, .ref (G.2.2.2 + q43)), (4, .ref (G.2.2.2 + q44)), (5, .int x45), (6, .int x46)]) E.1 E.2.1 dX7_compositionOf_112 hl (by decide) rfl (fun ls hl => ?_)
            refine L_X7_compositionOf_114 E hr hlk ?_ _ _ _ _ _ _ _ _ _ _ _ _ _ h hW (lv_sub hl [1, 2, 3, 4, 5, 6, 7, 0] rfl)
            · intro q66 q67 q68 q69 q70 x71 x72 σ65 H locs ls h hW hl
              refine lv_iload E.1 E.2.1 dX7_compositionOf_150 (lv_at hl 5 rfl) ?_
              refine lv_if_eq (tgt := 178) E.1 E.2.1 dX7_compositionOf_152 (by decide) (fun g => ?_) (fun g => ?_)
              · have h := ifp h g
                refine lv_iconst (v := (0 : Int32)) E.1 E.2.1 dX7_compositionOf_178 (by decide) ?_
                refine lv_istore (lv' := [(5, .int (0 : Int32)), (0, .ref (G.2.2.2 + q66)), (1, .ref (G.2.2.2 + q67)), (2, .ref (G.2.2.2 + q68)), (3, .ref (G.2.2.2 + q69)), (4, .ref (G.2.2.2 + q70)), (6, .int x72)]) E.1 E.2.1 dX7_compositionOf_179 hl (by decide) rfl (fun ls hl => ?_)
                obtain ⟨x82, ex82⟩ : ∃ y : Int32, y = x72 + (1 : Int32) := ⟨_, rfl⟩
                have h := bnd_r ex82 h
                refine lv_iinc (v := x82) (lv' := [(6, .int x82), (5, .int (0 : Int32)), (0, .ref (G.2.2.2 + q66)), (1, .ref (G.2.2.2 + q67)), (2, .ref (G.2.2.2 + q68)), (3, .ref (G.2.2.2 + q69)), (4, .ref (G.2.2.2 + q70))]) E.1 E.2.1 dX7_compositionOf_181 hl (k := 6) rfl (by rw [ex82]; rfl) (by decide) rfl (fun ls hl => ?_)
                refine lv_goto (tgt := 31) E.1 E.2.1 dX7_compositionOf_184 (by decide) ?_
                exact ih _ _ _ _ _ _ _ _ _ _ _ h hW (lv_sub hl [2, 3, 4, 5, 6, 1, 0] rfl)
              · have h := ifn h g
                refine lv_aload_n E.1 E.2.1 dX7_compositionOf_155 rfl (lv_at hl 0 rfl) ?_
                obtain ⟨g83, h⟩ := gd_r h
                refine gf_X7_35 E hW g83 dX7_compositionOf_156 ?_
                refine lv_aload_n E.1 E.2.1 dX7_compositionOf_159 rfl (lv_at hl 0 rfl) ?_
                refine gf_X7_38 E hW g83 dX7_compositionOf_160 ?_
                refine lv_iconst (v := (1 : Int32)) E.1 E.2.1 dX7_compositionOf_163 (by decide) ?_
                refine lv_aload_n E.1 E.2.1 dX7_compositionOf_164 rfl (lv_at hl 0 rfl) ?_
                refine gf_X7_35 E hW g83 dX7_compositionOf_165 ?_
                obtain ⟨x85, σ84, c86, h⟩ := obn_r h
                refine c_S (As := [.ref (G.2.2.2 + (rR q66 14)), .ref (G.2.2.2 + (rR q66 15)), .int (1 : Int32), .ref (G.2.2.2 + (rR q66 14))]) (rest := []) E hW (m_X7_sumOf c86) kw_1179 ws_X7_sumOf yo_X7_sumOf ⟨rfl, rfl⟩ ⟨(Nat.le_of_ble_eq_true rfl), (Nat.le_of_ble_eq_true rfl)⟩ (lv_size hl) (Nat.le_of_ble_eq_true rfl) ⟨(Nat.le_of_ble_eq_true rfl), (Nat.le_of_ble_eq_true rfl)⟩ rfl dX7_compositionOf_168 (fun H locs hW => ?_)
                refine W.eq (g2 := F0 m 171 ls [.int x85]) rfl ?_
                refine lv_if_eq (tgt := 178) E.1 E.2.1 dX7_compositionOf_171 (by decide) (fun g => ?_) (fun g => ?_)
                · have h := ifp h g
                  refine lv_iconst (v := (0 : Int32)) E.1 E.2.1 dX7_compositionOf_178 (by decide) ?_
                  refine lv_istore (lv' := [(5, .int (0 : Int32)), (0, .ref (G.2.2.2 + q66)), (1, .ref (G.2.2.2 + q67)), (2, .ref (G.2.2.2 + q68)), (3, .ref (G.2.2.2 + q69)), (4, .ref (G.2.2.2 + q70)), (6, .int x72)]) E.1 E.2.1 dX7_compositionOf_179 hl (by decide) rfl (fun ls hl => ?_)
                  obtain ⟨x87, ex87⟩ : ∃ y : Int32, y = x72 + (1 : Int32) := ⟨_, rfl⟩
                  have h := bnd_r ex87 h
                  refine lv_iinc (v := x87) (lv' := [(6, .int x87), (5, .int (0 : Int32)), (0, .ref (G.2.2.2 + q66)), (1, .ref (G.2.2.2 + q67)), (2, .ref (G.2.2.2 + q68)), (3, .ref (G.2.2.2 + q69)), (4, .ref (G.2.2.2 + q70))]) E.1 E.2.1 dX7_compositionOf_181 hl (k := 6) rfl (by rw [ex87]; rfl) (by decide) rfl (fun ls hl => ?_)
                  refine lv_goto (tgt := 31) E.1 E.2.1 dX7_compositionOf_184 (by decide) ?_
                  exact ih _ _ _ _ _ _ _ _ _ _ _ h hW (lv_sub hl [2, 3, 4, 5, 6, 1, 0] rfl)
                · have h := ifn h g
                  refine lv_iconst (v := (1 : Int32)) E.1 E.2.1 dX7_compositionOf_174 (by decide) ?_
                  refine lv_goto (tgt := 179) E.1 E.2.1 dX7_compositionOf_175 (by decide) ?_
                  refine lv_istore (lv' := [(5, .int (1 : Int32)), (0, .ref (G.2.2.2 + q66)), (1, .ref (G.2.2.2 + q67)), (2, .ref (G.2.2.2 + q68)), (3, .ref (G.2.2.2 + q69)), (4, .ref (G.2.2.2 + q70)), (6, .int x72)]) E.1 E.2.1 dX7_compositionOf_179 hl (by decide) rfl (fun ls hl => ?_)
                  obtain ⟨x88, ex88⟩ : ∃ y : Int32, y = x72 + (1 : Int32) := ⟨_, rfl⟩
                  have h := bnd_r ex88 h
                  refine lv_iinc (v := x88) (lv' := [(6, .int x88), (5, .int (1 : Int32)), (0, .ref (G.2.2.2 + q66)), (1, .ref (G.2.2.2 + q67)), (2, .ref (G.2.2.2 + q68)), (3, .ref (G.2.2.2 + q69)), (4, .ref (G.2.2.2 + q70))]) E.1 E.2.1 dX7_compositionOf_181 hl (k := 6) rfl (by rw [ex88]; rfl) (by decide) rfl (fun ls hl => ?_)
                  refine lv_goto (tgt := 31) E.1 E.2.1 dX7_compositionOf_184 (by decide) ?_
                  exact ih _ _ _ _ _ _ _ _ _ _ _ h hW (lv_sub hl [2, 3, 4, 5, 6, 1, 0] rfl)
        · have h := ifp h g
          refine lv_goto (tgt := 181) E.1 E.2.1 dX7_compositionOf_52 (by decide) ?_
          obtain ⟨x89, ex89⟩ : ∃ y : Int32, y = x17 + (1 : Int32) := ⟨_, rfl⟩
          have h := bnd_r ex89 h
          refine lv_iinc (v := x89) (lv' := [(6, .int x89), (0, .ref (G.2.2.2 + q11)), (1, .ref (G.2.2.2 + q12)), (2, .ref (G.2.2.2 + q13)), (3, .ref (G.2.2.2 + q14)), (4, .ref (G.2.2.2 + q15)), (5, .int x16)]) E.1 E.2.1 dX7_compositionOf_181 hl (k := 6) rfl (by rw [ex89]; rfl) (by decide) rfl (fun ls hl => ?_)
          refine lv_goto (tgt := 31) E.1 E.2.1 dX7_compositionOf_184 (by decide) ?_
          exact ih _ _ _ _ _ _ _ _ _ _ _ h hW (lv_sub hl [1, 2, 3, 4, 5, 6, 0] rfl)
set_option maxHeartbeats 4000000 in
set_option maxRecDepth 100000 in
theorem m_X7_compositionOf {l : Launch} {G : GP} {sz : Nat} {q0 : Nat} {q1 : Nat} {q2 : Nat} {q3 : Nat} {q4 : Nat} {σ σ0 : St} {r0 : Int32} (h : f_X7_compositionOf q0 q1 q2 q3 q4 σ = some (r0, σ0)) : Met l yX7_compositionOf [.code yX7_compositionOf cX7_compositionOf 8 (some .int)] ({ frames := 5, cells := 0, slots := 0, locals := 131 } : Room) (va_Pc [.ref (G.2.2.2 + q0), .ref (G.2.2.2 + q1), .ref (G.2.2.2 + q2), .ref (G.2.2.2 + q3), .ref (G.2.2.2 + q4)] (PreC G skR sz σ)) (QO (PoC G skR σ0) (Aw G.2.2.2 skR.1 sz) (some (.int r0))) 0 0 (Aw G.2.2.2 skR.1 sz) := by
  refine mkMet (by decide +kernel) (Nat.le_of_ble_eq_true rfl) skR_ok ?_
  intro p e s m below meth c ls E hW hl hr hlk
  have hl : lv_has ls 8 [(0, .ref (G.2.2.2 + q0)), (1, .ref (G.2.2.2 + q1)), (2, .ref (G.2.2.2 + q2)), (3, .ref (G.2.2.2 + q3)), (4, .ref (G.2.2.2 + q4))] := hl
  generalize Aw G.2.2.2 skR.1 s.heap.size = A0 at E hW ⊢
  generalize ([.ref (G.2.2.2 + q0), .ref (G.2.2.2 + q1), .ref (G.2.2.2 + q2), .ref (G.2.2.2 + q3), .ref (G.2.2.2 + q4)] : List Value).toArray = args
  unfold f_X7_compositionOf at h
  refine lv_aload_n E.1 E.2.1 dX7_compositionOf_0 rfl (lv_at hl 2 rfl) ?_
  obtain ⟨x2, σ1, c3, h⟩ := obn_r h
  refine c_S (As := [.ref (G.2.2.2 + q2)]) (rest := []) E hW (m_X7_isWithin c3) kw_1155 ws_X7_isWithin yo_X7_isWithin ⟨rfl, rfl⟩ ⟨(Nat.le_of_ble_eq_true rfl), (Nat.le_of_ble_eq_true rfl)⟩ (lv_size hl) (Nat.le_of_ble_eq_true rfl) ⟨(Nat.le_of_ble_eq_true rfl), (Nat.le_of_ble_eq_true rfl)⟩ rfl dX7_compositionOf_1 (fun H locs hW => ?_)
  refine W.eq (g2 := F0 m 4 ls [.int x2]) rfl ?_
  refine lv_if_ne (tgt := 9) E.1 E.2.1 dX7_compositionOf_4 (by decide) (fun g => ?_) (fun g => ?_)
  · have h := ifn h g
    refine lv_aload_n E.1 E.2.1 dX7_compositionOf_9 rfl (lv_at hl 3 rfl) ?_
    obtain ⟨x5, σ4, c6, h⟩ := obn_r h
    refine c_S (As := [.ref (G.2.2.2 + q3)]) (rest := []) E hW (m_X7_isWithin c6) kw_1155 ws_X7_isWithin yo_X7_isWithin ⟨rfl, rfl⟩ ⟨(Nat.le_of_ble_eq_true rfl), (Nat.le_of_ble_eq_true rfl)⟩ (lv_size hl) (Nat.le_of_ble_eq_true rfl) ⟨(Nat.le_of_ble_eq_true rfl), (Nat.le_of_ble_eq_true rfl)⟩ rfl dX7_compositionOf_10 (fun H locs hW => ?_)
    refine W.eq (g2 := F0 m 13 ls [.int x5]) rfl ?_
    refine lv_if_ne (tgt := 18) E.1 E.2.1 dX7_compositionOf_13 (by decide) (fun g => ?_) (fun g => ?_)
    · have h := ifn h g
      refine lv_iconst (v := (1 : Int32)) E.1 E.2.1 dX7_compositionOf_18 (by decide) ?_
      refine lv_istore (lv' := [(5, .int (1 : Int32)), (0, .ref (G.2.2.2 + q0)), (1, .ref (G.2.2.2 + q1)), (2, .ref (G.2.2.2 + q2)), (3, .ref (G.2.2.2 + q3)), (4, .ref (G.2.2.2 + q4))]) E.1 E.2.1 dX7_compositionOf_19 hl (by decide) rfl (fun ls hl => ?_)
      refine lv_aload_n E.1 E.2.1 dX7_compositionOf_21 rfl (lv_at hl 1 rfl) ?_
      obtain ⟨g7, h⟩ := gd_r h
      refine gf_X7_35 E hW g7 dX7_compositionOf_22 ?_
      obtain ⟨_r, σ8, c9, h⟩ := obn_r h
      refine c_S (As := [.ref (G.2.2.2 + (rR q0 14))]) (rest := []) E hW (m_X7_clearRow c9) kw_1066 ws_X7_clearRow yo_X7_clearRow ⟨rfl, rfl⟩ ⟨(Nat.le_of_ble_eq_true rfl), (Nat.le_of_ble_eq_true rfl)⟩ (lv_size hl) (Nat.le_of_ble_eq_true rfl) ⟨(Nat.le_of_ble_eq_true rfl), (Nat.le_of_ble_eq_true rfl)⟩ rfl dX7_compositionOf_25 (fun H locs hW => ?_)
      refine W.eq (g2 := F0 m 28 ls []) rfl ?_
      refine lv_iconst (v := (0 : Int32)) E.1 E.2.1 dX7_compositionOf_28 (by decide) ?_
      refine lv_istore (lv' := [(6, .int (0 : Int32)), (5, .int (1 : Int32)), (0, .ref (G.2.2.2 + q0)), (1, .ref (G.2.2.2 + q1)), (2, .ref (G.2.2.2 + q2)), (3, .ref (G.2.2.2 + q3)), (4, .ref (G.2.2.2 + q4))]) E.1 E.2.1 dX7_compositionOf_29 hl (by decide) rfl (fun ls hl => ?_)
      refine L_X7_compositionOf_31 E hr hlk ?_ _ _ _ _ _ _ _ _ _ _ _ _ h hW (lv_sub hl [2, 3, 4, 5, 6, 1, 0] rfl)
      · intro q19 q20 q21 x22 σ18 H locs ls h hW hl
        refine lv_aload_n E.1 E.2.1 dX7_compositionOf_187 rfl (lv_at hl 0 rfl) ?_
        obtain ⟨g90, h⟩ := gd_r h
        refine gf_X7_35 E hW g90 dX7_compositionOf_188 ?_
        refine lv_bipush (v := (10 : Int32)) E.1 E.2.1 dX7_compositionOf_191 (by decide) ?_
        refine lv_dup2_11 E.1 E.2.1 dX7_compositionOf_193 rfl rfl ?_
        obtain ⟨g91, h⟩ := gd_r h
        refine r_lald E hW (pr_eq g91.1) g91.2 dX7_compositionOf_194 ?_
        refine lv_aload_n E.1 E.2.1 dX7_compositionOf_195 rfl (lv_at hl 1 rfl) ?_
        refine lv_bipush (v := (10 : Int32)) E.1 E.2.1 dX7_compositionOf_196 (by decide) ?_
        obtain ⟨g92, h⟩ := gd_r h
        refine r_lald E hW (pr_eq g92.1) g92.2 dX7_compositionOf_198 ?_
        refine lv_ladd E.1 E.2.1 dX7_compositionOf_199 ?_
        refine r_last E hW (pr_eq g91.1) g91.2 dX7_compositionOf_200 (fun σ93 H locs eσ93 hW => ?_)
        have h := bnd_r eσ93 h
        refine lv_aload_n E.1 E.2.1 dX7_compositionOf_201 rfl (lv_at hl 0 rfl) ?_
        refine gf_X7_35 E hW g90 dX7_compositionOf_202 ?_
        refine lv_bipush (v := (11 : Int32)) E.1 E.2.1 dX7_compositionOf_205 (by decide) ?_
        refine lv_dup2_11 E.1 E.2.1 dX7_compositionOf_207 rfl rfl ?_
        obtain ⟨g94, h⟩ := gd_r h
        refine r_lald E hW (pr_eq g94.1) g94.2 dX7_compositionOf_208 ?_
        refine lv_aload_n E.1 E.2.1 dX7_compositionOf_209 rfl (lv_at hl 1 rfl) ?_
        refine lv_bipush (v := (11 : Int32)) E.1 E.2.1 dX7_compositionOf_210 (by decide) ?_
        obtain ⟨g95, h⟩ := gd_r h
        refine r_lald E hW (pr_eq g95.1) g95.2 dX7_compositionOf_212 ?_
        refine lv_ladd E.1 E.2.1 dX7_compositionOf_213 ?_
        refine r_last E hW (pr_eq g94.1) g94.2 dX7_compositionOf_214 (fun σ96 H locs eσ96 hW => ?_)
        have h := bnd_r eσ96 h
        refine lv_iload E.1 E.2.1 dX7_compositionOf_215 (lv_at hl 3 rfl) ?_
        refine lv_if_eq (tgt := 230) E.1 E.2.1 dX7_compositionOf_217 (by decide) (fun g => ?_) (fun g => ?_)
        · have h := ifp h g
          refine lv_iconst (v := (3 : Int32)) E.1 E.2.1 dX7_compositionOf_230 (by decide) ?_
          exact e_i E hW hr hlk h dX7_compositionOf_231
        · have h := ifn h g
          refine lv_aload_n E.1 E.2.1 dX7_compositionOf_220 rfl (lv_at hl 0 rfl) ?_
          refine gf_X7_35 E hW g90 dX7_compositionOf_221 ?_
          obtain ⟨x98, σ97, c99, h⟩ := obn_r h
          refine c_S (As := [.ref (G.2.2.2 + (rR q19 14))]) (rest := []) E hW (m_X7_isSmall c99) kw_1131 ws_X7_isSmall yo_X7_isSmall ⟨rfl, rfl⟩ ⟨(Nat.le_of_ble_eq_true rfl), (Nat.le_of_ble_eq_true rfl)⟩ (lv_size hl) (Nat.le_of_ble_eq_true rfl) ⟨(Nat.le_of_ble_eq_true rfl), (Nat.le_of_ble_eq_true rfl)⟩ rfl dX7_compositionOf_224 (fun H locs hW => ?_)
          refine W.eq (g2 := F0 m 227 ls [.int x98]) rfl ?_
          refine lv_if_ne (tgt := 232) E.1 E.2.1 dX7_compositionOf_227 (by decide) (fun g => ?_) (fun g => ?_)
          · have h := ifn h g
            refine lv_aload_n E.1 E.2.1 dX7_compositionOf_232 rfl (lv_at hl 0 rfl) ?_
            refine gf_X7_35 E hW g90 dX7_compositionOf_233 ?_
            refine lv_aload E.1 E.2.1 dX7_compositionOf_236 (lv_at hl 2 rfl) ?_
            obtain ⟨_r, σ100, c101, h⟩ := obn_r h
            refine c_S (As := [.ref (G.2.2.2 + (rR q19 14)), .ref (G.2.2.2 + q21)]) (rest := []) E hW (m_X7_copyRow c101) kw_1089 ws_X7_copyRow yo_X7_copyRow ⟨rfl, rfl⟩ ⟨(Nat.le_of_ble_eq_true rfl), (Nat.le_of_ble_eq_true rfl)⟩ (lv_size hl) (Nat.le_of_ble_eq_true rfl) ⟨(Nat.le_of_ble_eq_true rfl), (Nat.le_of_ble_eq_true rfl)⟩ rfl dX7_compositionOf_238 (fun H locs hW => ?_)
            refine W.eq (g2 := F0 m 241 ls []) rfl ?_
            refine lv_iconst (v := (0 : Int32)) E.1 E.2.1 dX7_compositionOf_241 (by decide) ?_
            exact e_i E hW hr hlk h dX7_compositionOf_242
          · have h := ifp h g
            refine lv_iconst (v := (3 : Int32)) E.1 E.2.1 dX7_compositionOf_230 (by decide) ?_
            exact e_i E hW hr hlk h dX7_compositionOf_231
    · have h := ifp h g
      refine lv_iconst (v := (2 : Int32)) E.1 E.2.1 dX7_compositionOf_16 (by decide) ?_
      exact e_i E hW hr hlk h dX7_compositionOf_17
  · have h := ifp h g
    refine lv_iconst (v := (1 : Int32)) E.1 E.2.1 dX7_compositionOf_7 (by decide) ?_
    exact e_i E hW hr hlk h dX7_compositionOf_8
set_option maxHeartbeats 4000000 in
set_option maxRecDepth 100000 in
theorem L_X7_integralOf_10 {p : Program} {l : Launch} {e : Env} {s : State} {m : MethodId} {args : Array Value} {below : List Frame} {meth : Method} {c : Code} {G : GP} {A0 : Nat → Prop} {σ0 : St} {r0 : Int32} {K196 : Nat → Nat → Nat → St → Option (Int32 × St)} (E : En p m c s cX7_integralOf 8 yX7_integralOf.cls G A0) (hr : meth.sig.returnType = (some .boolean)) (hlk : meth.locks = false) (hK196 : ∀ (q11 : Nat) (q12 : Nat) (q13 : Nat) (σ10 : St) (H : Heap) (locs : List Loc) (ls : Array Slot), K196 q11 q12 q13 σ10 = some (r0, σ0) → Wo G skR A0 s σ10 H locs → lv_has ls 8 [(0, .ref (G.2.2.2 + q11)), (1, .ref (G.2.2.2 + q12)), (3, .ref (G.2.2.2 + q13))] → W p l e ({ frames := 3, cells := 0, slots := 0, locals := 69 } : Room) s m args below meth c H locs 0 0 (MQ below (QO (PoC G skR σ0) A0 (some (.int r0))) args s 0 0 A0) (F0 m 196 ls [])) : ∀ (n14 : Nat) (q5 : Nat) (q6 : Nat) (x7 : Int32) (q8 : Nat) (x9 : Int32) (σ4 : St) (H : Heap) (locs : List Loc) (ls : Array Slot), f_X7_integralOf_L10 K196 n14 q5 q6 x7 q8 x9 σ4 = some (r0, σ0) → Wo G skR A0 s σ4 H locs → lv_has ls 8 [(0, .ref (G.2.2.2 + q5)), (1, .ref (G.2.2.2 + q6)), (2, .int x7), (3, .ref (G.2.2.2 + q8)), (4, .int x9)] → W p l e ({ frames := 3, cells := 0, slots := 0, locals := 69 } : Room) s m args below meth c H locs 0 0 (MQ below (QO (PoC G skR σ0) A0 (some (.int r0))) args s 0 0 A0) (F0 m 10 ls []) := by
  intro n14
  induction n14 with
  | zero =>
    intro q5 q6 x7 q8 x9 σ4 H locs ls h hW hl
    rw [f_X7_integralOf_L10] at h
    cases h
  | succ n14 ih =>
    intro q5 q6 x7 q8 x9 σ4 H locs ls h hW hl
    rw [f_X7_integralOf_L10] at h
    refine lv_iload E.1 E.2.1 dX7_integralOf_10 (lv_at hl 4 rfl) ?_
    refine lv_bipush (v := (10 : Int32)) E.1 E.2.1 dX7_integralOf_12 (by decide) ?_
    refine lv_icmp_ge (tgt := 196) E.1 E.2.1 dX7_integralOf_14 (by decide) (fun g => ?_) (fun g => ?_)
    · have h := ifp h g
      exact hK196 _ _ _ _ _ _ _ h hW (lv_sub hl [0, 1, 3] rfl)
    · have h := ifn h g
      refine lv_iload E.1 E.2.1 dX7_integralOf_17 (lv_at hl 4 rfl) ?_
      obtain ⟨x16, σ15, c17, h⟩ := obn_r h
      refine c_S (As := [.int x9]) (rest := []) E hW (m_X7_iOf c17) kw_1107 ws_X7_iOf yo_X7_iOf ⟨rfl, rfl⟩ ⟨(Nat.le_of_ble_eq_true rfl), (Nat.le_of_ble_eq_true rfl)⟩ (lv_size hl) (Nat.le_of_ble_eq_true rfl) ⟨(Nat.le_of_ble_eq_true rfl), (Nat.le_of_ble_eq_true rfl)⟩ rfl dX7_integralOf_19 (fun H locs hW => ?_)
      refine W.eq (g2 := F0 m 22 ls [.int x16]) rfl ?_
      refine lv_iconst (v := (1 : Int32)) E.1 E.2.1 dX7_integralOf_22 (by decide) ?_
      refine lv_iadd E.1 E.2.1 dX7_integralOf_23 ?_
      refine lv_iload_n E.1 E.2.1 dX7_integralOf_24 rfl (lv_at hl 2 rfl) ?_
      refine lv_isub E.1 E.2.1 dX7_integralOf_25 ?_
      refine lv_topi (fun x18 ex18 => ?_)
      have h := bnd_r ex18 h
      refine lv_istore (lv' := [(5, .int x18), (0, .ref (G.2.2.2 + q5)), (1, .ref (G.2.2.2 + q6)), (2, .int x7), (3, .ref (G.2.2.2 + q8)), (4, .int x9)]) E.1 E.2.1 dX7_integralOf_26 hl (by decide) rfl (fun ls hl => ?_)
      refine lv_iload E.1 E.2.1 dX7_integralOf_28 (lv_at hl 5 rfl) ?_
      obtain ⟨x20, σ19, c21, h⟩ := obn_r h
      refine c_S (As := [.int x9]) (rest := []) E hW (m_X7_jOf c21) kw_1110 ws_X7_jOf yo_X7_jOf ⟨rfl, rfl⟩ ⟨(Nat.le_of_ble_eq_true rfl), (Nat.le_of_ble_eq_true rfl)⟩ (lv_size hl) (Nat.le_of_ble_eq_true rfl) ⟨(Nat.le_of_ble_eq_true rfl), (Nat.le_of_ble_eq_true rfl)⟩ rfl dX7_integralOf_30 (fun H locs hW => ?_)
      refine W.eq (g2 := F0 m 33 ls [.int x20]) rfl ?_
      refine lv_iload_n E.1 E.2.1 dX7_integralOf_33 rfl (lv_at hl 3 rfl) ?_
      refine lv_iadd E.1 E.2.1 dX7_integralOf_34 ?_
      refine lv_topi (fun x22 ex22 => ?_)
      have h := bnd_r ex22 h
      refine lv_istore (lv' := [(6, .int x22), (5, .int x18), (0, .ref (G.2.2.2 + q5)), (1, .ref (G.2.2.2 + q6)), (2, .int x7), (3, .ref (G.2.2.2 + q8)), (4, .int x9)]) E.1 E.2.1 dX7_integralOf_35 hl (by decide) rfl (fun ls hl => ?_)
      refine lv_iload_n E.1 E.2.1 dX7_integralOf_37 rfl (lv_at hl 4 rfl) ?_
      obtain ⟨J32, eJ32, h⟩ := bnd_x h
      have hJ32 : ∀ (q24 : Nat) (q25 : Nat) (x26 : Int32) (q27 : Nat) (x28 : Int32) (x29 : Int32) (x30 : Int32) (x31 : Int32) (σ23 : St) (H : Heap) (locs : List Loc) (ls : Array Slot), J32 q24 q25 x26 q27 x28 x29 x30 x31 σ23 = some (r0, σ0) → Wo G skR A0 s σ23 H locs → lv_has ls 8 [(0, .ref (G.2.2.2 + q24)), (1, .ref (G.2.2.2 + q25)), (2, .int x26), (3, .ref (G.2.2.2 + q27)), (4, .int x28), (5, .int x29), (6, .int x30)] → W p l e ({ frames := 3, cells := 0, slots := 0, locals := 69 } : Room) s m args below meth c H locs 0 0 (MQ below (QO (PoC G skR σ0) A0 (some (.int r0))) args s 0 0 A0) (F0 m 48 ls [.int x31]) := by
        intro q24 q25 x26 q27 x28 x29 x30 x31 σ23 H locs ls h hW hl
        have h := jr9 eJ32 h
        refine lv_istore (lv' := [(7, .int x31), (0, .ref (G.2.2.2 + q24)), (1, .ref (G.2.2.2 + q25)), (2, .int x26), (3, .ref (G.2.2.2 + q27)), (4, .int x28), (5, .int x29), (6, .int x30)]) E.1 E.2.1 dX7_integralOf_48 hl (by decide) rfl (fun ls hl => ?_)
        refine lv_iload E.1 E.2.1 dX7_integralOf_50 (lv_at hl 6 rfl) ?_
        refine lv_iload E.1 E.2.1 dX7_integralOf_52 (lv_at hl 7 rfl) ?_
        refine lv_iadd E.1 E.2.1 dX7_integralOf_54 ?_
        refine lv_iconst (v := (3 : Int32)) E.1 E.2.1 dX7_integralOf_55 (by decide) ?_
        refine lv_icmp_le (tgt := 116) E.1 E.2.1 dX7_integralOf_56 (by decide) (fun g => ?_) (fun g => ?_)
        · have h := ifp h g
          refine lv_aload_n E.1 E.2.1 dX7_integralOf_116 rfl (lv_at hl 1 rfl) ?_
          obtain ⟨g33, h⟩ := gd_r h
          refine gf_X7_41 E hW g33 dX7_integralOf_117 ?_
          refine lv_iload E.1 E.2.1 dX7_integralOf_120 (lv_at hl 6 rfl) ?_
          refine lv_iload E.1 E.2.1 dX7_integralOf_122 (lv_at hl 7 rfl) ?_
          obtain ⟨x35, σ34, c36, h⟩ := obn_r h
          refine c_S (As := [.int x29, .int x30]) (rest := [.ref (G.2.2.2 + (rR q24 16))]) E hW (m_X7_place c36) kw_1093 ws_X7_place yo_X7_place ⟨rfl, rfl⟩ ⟨(Nat.le_of_ble_eq_true rfl), (Nat.le_of_ble_eq_true rfl)⟩ (lv_size hl) (Nat.le_of_ble_eq_true rfl) ⟨(Nat.le_of_ble_eq_true rfl), (Nat.le_of_ble_eq_true rfl)⟩ rfl dX7_integralOf_124 (fun H locs hW => ?_)
          refine W.eq (g2 := F0 m 127 ls [.int x35, .ref (G.2.2.2 + (rR q24 16))]) rfl ?_
          refine lv_aload_n E.1 E.2.1 dX7_integralOf_127 rfl (lv_at hl 2 rfl) ?_
          refine lv_iload E.1 E.2.1 dX7_integralOf_128 (lv_at hl 5 rfl) ?_
          obtain ⟨g37, h⟩ := gd_r h
          refine r_lald E hW (pr_eq g37.1) g37.2 dX7_integralOf_130 ?_
          refine lv_iload E.1 E.2.1 dX7_integralOf_131 (lv_at hl 0 rfl) ?_
          refine lv_i2l E.1 E.2.1 dX7_integralOf_133 rfl ?_
          obtain ⟨x39, σ38, c40, h⟩ := obn_r h
          refine c_S (As := [.long (σ34.2 q25 x28.toNatClampNeg), .long x31.toInt64]) (rest := [.int x35, .ref (G.2.2.2 + (rR q24 16))]) E hW (m_X7_down c40) kw_1119 ws_X7_down yo_X7_down ⟨rfl, rfl⟩ ⟨(Nat.le_of_ble_eq_true rfl), (Nat.le_of_ble_eq_true rfl)⟩ (lv_size hl) (Nat.le_of_ble_eq_true rfl) ⟨(Nat.le_of_ble_eq_true rfl), (Nat.le_of_ble_eq_true rfl)⟩ rfl dX7_integralOf_134 (fun H locs hW => ?_)
          refine W.eq (g2 := F0 m 137 ls [.long x39, .int x35, .ref (G.2.2.2 + (rR q24 16))]) rfl ?_
          obtain ⟨g41, h⟩ := gd_r h
          refine r_last E hW (pr_eq g41.1) g41.2 dX7_integralOf_137 (fun σ42 H locs eσ42 hW => ?_)
          have h := bnd_r eσ42 h
          refine lv_aload_n E.1 E.2.1 dX7_integralOf_138 rfl (lv_at hl 2 rfl) ?_
          refine lv_iload E.1 E.2.1 dX7_integralOf_139 (lv_at hl 5 rfl) ?_
          refine r_lald E hW (pr_eq g37.1) g37.2 dX7_integralOf_141 ?_
          refine lv_iload E.1 E.2.1 dX7_integralOf_142 (lv_at hl 0 rfl) ?_
          refine lv_i2l E.1 E.2.1 dX7_integralOf_144 rfl ?_
          obtain ⟨g43, h⟩ := gd_r h
          refine lv_lrem E.1 E.2.1 dX7_integralOf_145 g43 ?_
          refine lv_lconst (v := (0 : Int64)) E.1 E.2.1 dX7_integralOf_146 (by decide) ?_
          refine r_lc_ne E dX7_integralOf_147 dX7_integralOf_148 (tgt := 154) (by decide) (fun g => ?_) (fun g => ?_)
          · have h := ifn h g
            refine lv_aload_n E.1 E.2.1 dX7_integralOf_154 rfl (lv_at hl 1 rfl) ?_
            refine gf_X7_41 E hW g33 dX7_integralOf_155 ?_
            refine lv_bipush (v := (10 : Int32)) E.1 E.2.1 dX7_integralOf_158 (by decide) ?_
            refine lv_dup2_11 E.1 E.2.1 dX7_integralOf_160 rfl rfl ?_
            obtain ⟨g44, h⟩ := gd_r h
            refine r_lald E hW (pr_eq g44.1) g44.2 dX7_integralOf_161 ?_
            refine lv_lconst (v := (1 : Int64)) E.1 E.2.1 dX7_integralOf_162 (by decide) ?_
            refine lv_iload E.1 E.2.1 dX7_integralOf_163 (lv_at hl 6 rfl) ?_
            refine lv_iload E.1 E.2.1 dX7_integralOf_165 (lv_at hl 7 rfl) ?_
            obtain ⟨x46, σ45, c47, h⟩ := obn_r h
            refine c_S (As := [.long (1 : Int64), .int x29, .int x30]) (rest := [.long (σ42.2 (rR q24 16) (10 : Int32).toNatClampNeg), .int (10 : Int32), .ref (G.2.2.2 + (rR q24 16))]) E hW (m_X7_low c47) kw_1113 ws_X7_low yo_X7_low ⟨rfl, rfl⟩ ⟨(Nat.le_of_ble_eq_true rfl), (Nat.le_of_ble_eq_true rfl)⟩ (lv_size hl) (Nat.le_of_ble_eq_true rfl) ⟨(Nat.le_of_ble_eq_true rfl), (Nat.le_of_ble_eq_true rfl)⟩ rfl dX7_integralOf_167 (fun H locs hW => ?_)
            refine W.eq (g2 := F0 m 170 ls [.long x46, .long (σ42.2 (rR q24 16) (10 : Int32).toNatClampNeg), .int (10 : Int32), .ref (G.2.2.2 + (rR q24 16))]) rfl ?_
            refine lv_ladd E.1 E.2.1 dX7_integralOf_170 ?_
            refine r_last E hW (pr_eq g44.1) g44.2 dX7_integralOf_171 (fun σ48 H locs eσ48 hW => ?_)
            have h := bnd_r eσ48 h
            refine lv_aload_n E.1 E.2.1 dX7_integralOf_172 rfl (lv_at hl 1 rfl) ?_
            refine gf_X7_41 E hW g33 dX7_integralOf_173 ?_
            refine lv_bipush (v := (11 : Int32)) E.1 E.2.1 dX7_integralOf_176 (by decide) ?_
            refine lv_dup2_11 E.1 E.2.1 dX7_integralOf_178 rfl rfl ?_
            obtain ⟨g49, h⟩ := gd_r h
            refine r_lald E hW (pr_eq g49.1) g49.2 dX7_integralOf_179 ?_
            refine lv_lconst (v := (1 : Int64)) E.1 E.2.1 dX7_integralOf_180 (by decide) ?_
            refine lv_iload E.1 E.2.1 dX7_integralOf_181 (lv_at hl 6 rfl) ?_
            refine lv_iload E.1 E.2.1 dX7_integralOf_183 (lv_at hl 7 rfl) ?_
            obtain ⟨x51, σ50, c52, h⟩ := obn_r h
            refine c_S (As := [.long (1 : Int64), .int x29, .int x30]) (rest := [.long (σ48.2 (rR q24 16) (11 : Int32).toNatClampNeg), .int (11 : Int32), .ref (G.2.2.2 + (rR q24 16))]) E hW (m_X7_high c52) kw_1122 ws_X7_high yo_X7_high ⟨rfl, rfl⟩ ⟨(Nat.le_of_ble_eq_true rfl), (Nat.le_of_ble_eq_true rfl)⟩ (lv_size hl) (Nat.le_of_ble_eq_true rfl) ⟨(Nat.le_of_ble_eq_true rfl), (Nat.le_of_ble_eq_true rfl)⟩ rfl dX7_integralOf_185 (fun H locs hW => ?_)
            refine W.eq (g2 := F0 m 188 ls [.long x51, .long (σ48.2 (rR q24 16) (11 : Int32).toNatClampNeg), .int (11 : Int32), .ref (G.2.2.2 + (rR q24 16))]) rfl ?_
            refine lv_ladd E.1 E.2.1 dX7_integralOf_188 ?_
            refine r_last E hW (pr_eq g49.1) g49.2 dX7_integralOf_189 (fun σ53 H locs eσ53 hW => ?_)
            have h := bnd_r eσ53 h
            obtain ⟨x54, ex54⟩ : ∃ y : Int32, y = x28 + (1 : Int32) := ⟨_, rfl⟩
            have h := bnd_r ex54 h
            refine lv_iinc (v := x54) (lv' := [(4, .int x54), (7, .int x31), (0, .ref (G.2.2.2 + q24)), (1, .ref (G.2.2.2 + q25)), (2, .int x26), (3, .ref (G.2.2.2 + q27)), (5, .int x29), (6, .int x30)]) E.1 E.2.1 dX7_integralOf_190 hl (k := 5) rfl (by rw [ex54]; rfl) (by decide) rfl (fun ls hl => ?_)
            refine lv_goto (tgt := 10) E.1 E.2.1 dX7_integralOf_193 (by decide) ?_
            exact ih _ _ _ _ _ _ _ _ _ h hW (lv_sub hl [2, 3, 4, 5, 0] rfl)
          · have h := ifp h g
            refine lv_goto (tgt := 190) E.1 E.2.1 dX7_integralOf_151 (by decide) ?_
            obtain ⟨x55, ex55⟩ : ∃ y : Int32, y = x28 + (1 : Int32) := ⟨_, rfl⟩
            have h := bnd_r ex55 h
            refine lv_iinc (v := x55) (lv' := [(4, .int x55), (7, .int x31), (0, .ref (G.2.2.2 + q24)), (1, .ref (G.2.2.2 + q25)), (2, .int x26), (3, .ref (G.2.2.2 + q27)), (5, .int x29), (6, .int x30)]) E.1 E.2.1 dX7_integralOf_190 hl (k := 5) rfl (by rw [ex55]; rfl) (by decide) rfl (fun ls hl => ?_)
            refine lv_goto (tgt := 10) E.1 E.2.1 dX7_integralOf_193 (by decide) ?_
            exact ih _ _ _ _ _ _ _ _ _ h hW (lv_sub hl [2, 3, 4, 5, 0] rfl)
        · have h := ifn h g
          refine lv_aload_n E.1 E.2.1 dX7_integralOf_59 rfl (lv_at hl 1 rfl) ?_
          obtain ⟨g56, h⟩ := gd_r h
          refine gf_X7_41 E hW g56 dX7_integralOf_60 ?_
          refine lv_bipush (v := (10 : Int32)) E.1 E.2.1 dX7_integralOf_63 (by decide) ?_
          refine lv_dup2_11 E.1 E.2.1 dX7_integralOf_65 rfl rfl ?_
          obtain ⟨g57, h⟩ := gd_r h
          refine r_lald E hW (pr_eq g57.1) g57.2 dX7_integralOf_66 ?_
          refine lv_aload_n E.1 E.2.1 dX7_integralOf_67 rfl (lv_at hl 2 rfl) ?_
          refine lv_iload E.1 E.2.1 dX7_integralOf_68 (lv_at hl 5 rfl) ?_
          obtain ⟨g58, h⟩ := gd_r h
          refine r_lald E hW (pr_eq g58.1) g58.2 dX7_integralOf_70 ?_
          refine lv_iload E.1 E.2.1 dX7_integralOf_71 (lv_at hl 6 rfl) ?_
          refine lv_iload E.1 E.2.1 dX7_integralOf_73 (lv_at hl 7 rfl) ?_
          obtain ⟨x60, σ59, c61, h⟩ := obn_r h
          refine c_S (As := [.long (σ23.2 q25 x28.toNatClampNeg), .int x29, .int x30]) (rest := [.long (σ23.2 (rR q24 16) (10 : Int32).toNatClampNeg), .int (10 : Int32), .ref (G.2.2.2 + (rR q24 16))]) E hW (m_X7_low c61) kw_1113 ws_X7_low yo_X7_low ⟨rfl, rfl⟩ ⟨(Nat.le_of_ble_eq_true rfl), (Nat.le_of_ble_eq_true rfl)⟩ (lv_size hl) (Nat.le_of_ble_eq_true rfl) ⟨(Nat.le_of_ble_eq_true rfl), (Nat.le_of_ble_eq_true rfl)⟩ rfl dX7_integralOf_75 (fun H locs hW => ?_)
          refine W.eq (g2 := F0 m 78 ls [.long x60, .long (σ23.2 (rR q24 16) (10 : Int32).toNatClampNeg), .int (10 : Int32), .ref (G.2.2.2 + (rR q24 16))]) rfl ?_
          refine lv_iload E.1 E.2.1 dX7_integralOf_78 (lv_at hl 0 rfl) ?_
          refine lv_i2l E.1 E.2.1 dX7_integralOf_80 rfl ?_
          obtain ⟨x63, σ62, c64, h⟩ := obn_r h
          refine c_S (As := [.long x60, .long x31.toInt64]) (rest := [.long (σ23.2 (rR q24 16) (10 : Int32).toNatClampNeg), .int (10 : Int32), .ref (G.2.2.2 + (rR q24 16))]) E hW (m_X7_down c64) kw_1119 ws_X7_down yo_X7_down ⟨rfl, rfl⟩ ⟨(Nat.le_of_ble_eq_true rfl), (Nat.le_of_ble_eq_true rfl)⟩ (lv_size hl) (Nat.le_of_ble_eq_true rfl) ⟨(Nat.le_of_ble_eq_true rfl), (Nat.le_of_ble_eq_true rfl)⟩ rfl dX7_integralOf_81 (fun H locs hW => ?_)
          refine W.eq (g2 := F0 m 84 ls [.long x63, .long (σ23.2 (rR q24 16) (10 : Int32).toNatClampNeg), .int (10 : Int32), .ref (G.2.2.2 + (rR q24 16))]) rfl ?_
          refine lv_ladd E.1 E.2.1 dX7_integralOf_84 ?_
          refine r_last E hW (pr_eq g57.1) g57.2 dX7_integralOf_85 (fun σ65 H locs eσ65 hW => ?_)
          have h := bnd_r eσ65 h
          refine lv_aload_n E.1 E.2.1 dX7_integralOf_86 rfl (lv_at hl 1 rfl) ?_
          refine gf_X7_41 E hW g56 dX7_integralOf_87 ?_
          refine lv_bipush (v := (11 : Int32)) E.1 E.2.1 dX7_integralOf_90 (by decide) ?_
          refine lv_dup2_11 E.1 E.2.1 dX7_integralOf_92 rfl rfl ?_
          obtain ⟨g66, h⟩ := gd_r h
          refine r_lald E hW (pr_eq g66.1) g66.2 dX7_integralOf_93 ?_
          refine lv_aload_n E.1 E.2.1 dX7_integralOf_94 rfl (lv_at hl 2 rfl) ?_
          refine lv_iload E.1 E.2.1 dX7_integralOf_95 (lv_at hl 5 rfl) ?_
          refine r_lald E hW (pr_eq g58.1) g58.2 dX7_integralOf_97 ?_
          refine lv_iload E.1 E.2.1 dX7_integralOf_98 (lv_at hl 6 rfl) ?_
          refine lv_iload E.1 E.2.1 dX7_integralOf_100 (lv_at hl 7 rfl) ?_
          obtain ⟨x68, σ67, c69, h⟩ := obn_r h
          refine c_S (As := [.long (σ65.2 q25 x28.toNatClampNeg), .int x29, .int x30]) (rest := [.long (σ65.2 (rR q24 16) (11 : Int32).toNatClampNeg), .int (11 : Int32), .ref (G.2.2.2 + (rR q24 16))]) E hW (m_X7_high c69) kw_1122 ws_X7_high yo_X7_high ⟨rfl, rfl⟩ ⟨(Nat.le_of_ble_eq_true rfl), (Nat.le_of_ble_eq_true rfl)⟩ (lv_size hl) (Nat.le_of_ble_eq_true rfl) ⟨(Nat.le_of_ble_eq_true rfl), (Nat.le_of_ble_eq_true rfl)⟩ rfl dX7_integralOf_102 (fun H locs hW => ?_)
          refine W.eq (g2 := F0 m 105 ls [.long x68, .long (σ65.2 (rR q24 16) (11 : Int32).toNatClampNeg), .int (11 : Int32), .ref (G.2.2.2 + (rR q24 16))]) rfl ?_
          refine lv_iload E.1 E.2.1 dX7_integralOf_105 (lv_at hl 0 rfl) ?_
          refine lv_i2l E.1 E.2.1 dX7_integralOf_107 rfl ?_
          obtain ⟨x71, σ70, c72, h⟩ := obn_r h
          refine c_S (As := [.long x68, .long x31.toInt64]) (rest := [.long (σ65.2 (rR q24 16) (11 : Int32).toNatClampNeg), .int (11 : Int32), .ref (G.2.2.2 + (rR q24 16))]) E hW (m_X7_up c72) kw_1125 ws_X7_up yo_X7_up ⟨rfl, rfl⟩ ⟨(Nat.le_of_ble_eq_true rfl), (Nat.le_of_ble_eq_true rfl)⟩ (lv_size hl) (Nat.le_of_ble_eq_true rfl) ⟨(Nat.le_of_ble_eq_true rfl), (Nat.le_of_ble_eq_true rfl)⟩ rfl dX7_integralOf_108 (fun H locs hW => ?_)
          refine W.eq (g2 := F0 m 111 ls [.long x71, .long (σ65.2 (rR q24 16) (11 : Int32).toNatClampNeg), .int (11 : Int32), .ref (G.2.2.2 + (rR q24 16))]) rfl ?_
          refine lv_ladd E.1 E.2.1 dX7_integralOf_111 ?_
          refine r_last E hW (pr_eq g66.1) g66.2 dX7_integralOf_112 (fun σ73 H locs eσ73 hW => ?_)
          have h := bnd_r eσ73 h
          refine lv_goto (tgt := 190) E.1 E.2.1 dX7_integralOf_113 (by decide) ?_
          obtain ⟨x74, ex74⟩ : ∃ y : Int32, y = x28 + (1 : Int32) := ⟨_, rfl⟩
          have h := bnd_r ex74 h
          refine lv_iinc (v := x74) (lv' := [(4, .int x74), (7, .int x31), (0, .ref (G.2.2.2 + q24)), (1, .ref (G.2.2.2 + q25)), (2, .int x26), (3, .ref (G.2.2.2 + q27)), (5, .int x29), (6, .int x30)]) E.1 E.2.1 dX7_integralOf_190 hl (k := 5) rfl (by rw [ex74]; rfl) (by decide) rfl (fun ls hl => ?_)
          refine lv_goto (tgt := 10) E.1 E.2.1 dX7_integralOf_193 (by decide) ?_
          exact ih _ _ _ _ _ _ _ _ _ h hW (lv_sub hl [2, 3, 4, 5, 0] rfl)
      refine lv_if_ne (tgt := 46) E.1 E.2.1 dX7_integralOf_38 (by decide) (fun g => ?_) (fun g => ?_)
      · have h := ifn h g
        refine lv_iload E.1 E.2.1 dX7_integralOf_46 (lv_at hl 0 rfl) ?_
        exact hJ32 _ _ _ _ _ _ _ _ _ _ _ _ h hW (lv_sub hl [2, 3, 4, 5, 6, 1, 0] rfl)
      · have h := ifp h g
        refine lv_iload E.1 E.2.1 dX7_integralOf_41 (lv_at hl 1 rfl) ?_
        refine lv_goto (tgt := 48) E.1 E.2.1 dX7_integralOf_43 (by decide) ?_
        exact hJ32 _ _ _ _ _ _ _ _ _ _ _ _ h hW (lv_sub hl [2, 3, 4, 5, 6, 1, 0] rfl)
set_option maxHeartbeats 4000000 in
set_option maxRecDepth 100000 in
theorem m_X7_integralOf {l : Launch} {G : GP} {sz : Nat} {q0 : Nat} {q1 : Nat} {a2 : Int32} {q3 : Nat} {σ σ0 : St} {r0 : Int32} (h : f_X7_integralOf q0 q1 a2 q3 σ = some (r0, σ0)) : Met l yX7_integralOf [.code yX7_integralOf cX7_integralOf 8 (some .boolean)] ({ frames := 3, cells := 0, slots := 0, locals := 69 } : Room) (va_Pc [.ref (G.2.2.2 + q0), .ref (G.2.2.2 + q1), .int a2, .ref (G.2.2.2 + q3)] (PreC G skR sz σ)) (QO (PoC G skR σ0) (Aw G.2.2.2 skR.1 sz) (some (.int r0))) 0 0 (Aw G.2.2.2 skR.1 sz) := by
  refine mkMet (by decide +kernel) (Nat.le_of_ble_eq_true rfl) skR_ok ?_
  intro p e s m below meth c ls E hW hl hr hlk
  have hl : lv_has ls 8 [(0, .ref (G.2.2.2 + q0)), (1, .ref (G.2.2.2 + q1)), (2, .int a2), (3, .ref (G.2.2.2 + q3))] := hl
  generalize Aw G.2.2.2 skR.1 s.heap.size = A0 at E hW ⊢
  generalize ([.ref (G.2.2.2 + q0), .ref (G.2.2.2 + q1), .int a2, .ref (G.2.2.2 + q3)] : List Value).toArray = args
  unfold f_X7_integralOf at h
  refine lv_aload_n E.1 E.2.1 dX7_integralOf_0 rfl (lv_at hl 0 rfl) ?_
  obtain ⟨g1, h⟩ := gd_r h
  refine gf_X7_41 E hW g1 dX7_integralOf_1 ?_
  obtain ⟨_r, σ2, c3, h⟩ := obn_r h
  refine c_S (As := [.ref (G.2.2.2 + (rR q0 16))]) (rest := []) E hW (m_X7_clearRow c3) kw_1066 ws_X7_clearRow yo_X7_clearRow ⟨rfl, rfl⟩ ⟨(Nat.le_of_ble_eq_true rfl), (Nat.le_of_ble_eq_true rfl)⟩ (lv_size hl) (Nat.le_of_ble_eq_true rfl) ⟨(Nat.le_of_ble_eq_true rfl), (Nat.le_of_ble_eq_true rfl)⟩ rfl dX7_integralOf_4 (fun H locs hW => ?_)
  refine W.eq (g2 := F0 m 7 ls []) rfl ?_
  refine lv_iconst (v := (0 : Int32)) E.1 E.2.1 dX7_integralOf_7 (by decide) ?_
  refine lv_istore (lv' := [(4, .int (0 : Int32)), (0, .ref (G.2.2.2 + q0)), (1, .ref (G.2.2.2 + q1)), (2, .int a2), (3, .ref (G.2.2.2 + q3))]) E.1 E.2.1 dX7_integralOf_8 hl (by decide) rfl (fun ls hl => ?_)
  refine L_X7_integralOf_10 E hr hlk ?_ _ _ _ _ _ _ _ _ _ _ h hW (lv_sub hl [1, 2, 3, 4, 0] rfl)
  · intro q11 q12 q13 σ10 H locs ls h hW hl
    refine lv_aload_n E.1 E.2.1 dX7_integralOf_196 rfl (lv_at hl 1 rfl) ?_
    refine lv_bipush (v := (10 : Int32)) E.1 E.2.1 dX7_integralOf_197 (by decide) ?_
    obtain ⟨g75, h⟩ := gd_r h
    refine r_lald E hW (pr_eq g75.1) g75.2 dX7_integralOf_199 ?_
    refine lv_aload_n E.1 E.2.1 dX7_integralOf_200 rfl (lv_at hl 1 rfl) ?_
    refine lv_bipush (v := (10 : Int32)) E.1 E.2.1 dX7_integralOf_201 (by decide) ?_
    refine r_lald E hW (pr_eq g75.1) g75.2 dX7_integralOf_203 ?_
    refine lv_lneg E.1 E.2.1 dX7_integralOf_204 ?_
    obtain ⟨x77, σ76, c78, h⟩ := obn_r h
    refine c_S (As := [.long (σ10.2 q12 (10 : Int32).toNatClampNeg), .long (-(σ10.2 q12 (10 : Int32).toNatClampNeg))]) (rest := []) E hW (m_X7_greater c78) kw_1128 ws_X7_greater yo_X7_greater ⟨rfl, rfl⟩ ⟨(Nat.le_of_ble_eq_true rfl), (Nat.le_of_ble_eq_true rfl)⟩ (lv_size hl) (Nat.le_of_ble_eq_true rfl) ⟨(Nat.le_of_ble_eq_true rfl), (Nat.le_of_ble_eq_true rfl)⟩ rfl dX7_integralOf_205 (fun H locs hW => ?_)
    refine W.eq (g2 := F0 m 208 ls [.long x77]) rfl ?_
    refine lv_aload_n E.1 E.2.1 dX7_integralOf_208 rfl (lv_at hl 1 rfl) ?_
    refine lv_bipush (v := (11 : Int32)) E.1 E.2.1 dX7_integralOf_209 (by decide) ?_
    obtain ⟨g79, h⟩ := gd_r h
    refine r_lald E hW (pr_eq g79.1) g79.2 dX7_integralOf_211 ?_
    refine lv_aload_n E.1 E.2.1 dX7_integralOf_212 rfl (lv_at hl 1 rfl) ?_
    refine lv_bipush (v := (11 : Int32)) E.1 E.2.1 dX7_integralOf_213 (by decide) ?_
    refine r_lald E hW (pr_eq g79.1) g79.2 dX7_integralOf_215 ?_
    refine lv_lneg E.1 E.2.1 dX7_integralOf_216 ?_
    obtain ⟨x81, σ80, c82, h⟩ := obn_r h
    refine c_S (As := [.long (σ76.2 q12 (11 : Int32).toNatClampNeg), .long (-(σ76.2 q12 (11 : Int32).toNatClampNeg))]) (rest := [.long x77]) E hW (m_X7_greater c82) kw_1128 ws_X7_greater yo_X7_greater ⟨rfl, rfl⟩ ⟨(Nat.le_of_ble_eq_true rfl), (Nat.le_of_ble_eq_true rfl)⟩ (lv_size hl) (Nat.le_of_ble_eq_true rfl) ⟨(Nat.le_of_ble_eq_true rfl), (Nat.le_of_ble_eq_true rfl)⟩ rfl dX7_integralOf_217 (fun H locs hW => ?_)
    refine W.eq (g2 := F0 m 220 ls [.long x81, .long x77]) rfl ?_
    obtain ⟨x84, σ83, c85, h⟩ := obn_r h
    refine c_S (As := [.long x77, .long x81]) (rest := []) E hW (m_X7_greater c85) kw_1128 ws_X7_greater yo_X7_greater ⟨rfl, rfl⟩ ⟨(Nat.le_of_ble_eq_true rfl), (Nat.le_of_ble_eq_true rfl)⟩ (lv_size hl) (Nat.le_of_ble_eq_true rfl) ⟨(Nat.le_of_ble_eq_true rfl), (Nat.le_of_ble_eq_true rfl)⟩ rfl dX7_integralOf_220 (fun H locs hW => ?_)
    refine W.eq (g2 := F0 m 223 ls [.long x84]) rfl ?_
    refine lv_lstore (lv' := [(4, .long x84), (0, .ref (G.2.2.2 + q11)), (1, .ref (G.2.2.2 + q12)), (3, .ref (G.2.2.2 + q13))]) E.1 E.2.1 dX7_integralOf_223 hl (by decide) rfl (fun ls hl => ?_)
    refine lv_aload_n E.1 E.2.1 dX7_integralOf_225 rfl (lv_at hl 1 rfl) ?_
    obtain ⟨g86, h⟩ := gd_r h
    refine gf_X7_41 E hW g86 dX7_integralOf_226 ?_
    refine lv_bipush (v := (10 : Int32)) E.1 E.2.1 dX7_integralOf_229 (by decide) ?_
    refine lv_dup2_11 E.1 E.2.1 dX7_integralOf_231 rfl rfl ?_
    obtain ⟨g87, h⟩ := gd_r h
    refine r_lald E hW (pr_eq g87.1) g87.2 dX7_integralOf_232 ?_
    refine lv_lload E.1 E.2.1 dX7_integralOf_233 (lv_at hl 0 rfl) ?_
    refine lv_lsub E.1 E.2.1 dX7_integralOf_235 ?_
    refine r_last E hW (pr_eq g87.1) g87.2 dX7_integralOf_236 (fun σ88 H locs eσ88 hW => ?_)
    have h := bnd_r eσ88 h
    refine lv_aload_n E.1 E.2.1 dX7_integralOf_237 rfl (lv_at hl 1 rfl) ?_
    refine gf_X7_41 E hW g86 dX7_integralOf_238 ?_
    refine lv_bipush (v := (11 : Int32)) E.1 E.2.1 dX7_integralOf_241 (by decide) ?_
    refine lv_dup2_11 E.1 E.2.1 dX7_integralOf_243 rfl rfl ?_
    obtain ⟨g89, h⟩ := gd_r h
    refine r_lald E hW (pr_eq g89.1) g89.2 dX7_integralOf_244 ?_
    refine lv_lload E.1 E.2.1 dX7_integralOf_245 (lv_at hl 0 rfl) ?_
    refine lv_ladd E.1 E.2.1 dX7_integralOf_247 ?_
    refine r_last E hW (pr_eq g89.1) g89.2 dX7_integralOf_248 (fun σ90 H locs eσ90 hW => ?_)
    have h := bnd_r eσ90 h
    refine lv_aload_n E.1 E.2.1 dX7_integralOf_249 rfl (lv_at hl 1 rfl) ?_
    refine gf_X7_41 E hW g86 dX7_integralOf_250 ?_
    refine lv_aload_n E.1 E.2.1 dX7_integralOf_253 rfl (lv_at hl 3 rfl) ?_
    obtain ⟨_r, σ91, c92, h⟩ := obn_r h
    refine c_S (As := [.ref (G.2.2.2 + (rR q11 16)), .ref (G.2.2.2 + q13)]) (rest := []) E hW (m_X7_copyRow c92) kw_1089 ws_X7_copyRow yo_X7_copyRow ⟨rfl, rfl⟩ ⟨(Nat.le_of_ble_eq_true rfl), (Nat.le_of_ble_eq_true rfl)⟩ (lv_size hl) (Nat.le_of_ble_eq_true rfl) ⟨(Nat.le_of_ble_eq_true rfl), (Nat.le_of_ble_eq_true rfl)⟩ rfl dX7_integralOf_254 (fun H locs hW => ?_)
    refine W.eq (g2 := F0 m 257 ls []) rfl ?_
    refine lv_aload_n E.1 E.2.1 dX7_integralOf_257 rfl (lv_at hl 3 rfl) ?_
    obtain ⟨x94, σ93, c95, h⟩ := obn_r h
    refine c_S (As := [.ref (G.2.2.2 + q13)]) (rest := []) E hW (m_X7_isSmall c95) kw_1131 ws_X7_isSmall yo_X7_isSmall ⟨rfl, rfl⟩ ⟨(Nat.le_of_ble_eq_true rfl), (Nat.le_of_ble_eq_true rfl)⟩ (lv_size hl) (Nat.le_of_ble_eq_true rfl) ⟨(Nat.le_of_ble_eq_true rfl), (Nat.le_of_ble_eq_true rfl)⟩ rfl dX7_integralOf_258 (fun H locs hW => ?_)
    refine W.eq (g2 := F0 m 261 ls [.int x94]) rfl ?_
    obtain ⟨g96, h⟩ := gd_r h
    exact e_z E hW hr hlk g96 h dX7_integralOf_261
set_option maxHeartbeats 4000000 in
set_option maxRecDepth 100000 in
theorem L_X7_append_23 {p : Program} {l : Launch} {e : Env} {s : State} {m : MethodId} {args : Array Value} {below : List Frame} {meth : Method} {c : Code} {G : GP} {A0 : Nat → Prop} {σ0 : St} {r0 : Int32} (E : En p m c s cX7_append 8 yX7_append.cls G A0) (hr : meth.sig.returnType = (some .int)) (hlk : meth.locks = false) : ∀ (n11 : Nat) (q4 : Nat) (x5 : Int32) (x6 : Int32) (x7 : Int32) (x8 : Int32) (x9 : Int32) (x10 : Int32) (σ3 : St) (H : Heap) (locs : List Loc) (ls : Array Slot), f_X7_append_L23 n11 q4 x5 x6 x7 x8 x9 x10 σ3 = some (r0, σ0) → Wo G skR A0 s σ3 H locs → lv_has ls 8 [(0, .ref (G.2.2.2 + q4)), (1, .int x5), (2, .int x6), (3, .int x7), (4, .int x8), (5, .int x9), (6, .int x10)] → W p l e ({ frames := 0, cells := 0, slots := 0, locals := 0 } : Room) s m args below meth c H locs 0 0 (MQ below (QO (PoC G skR σ0) A0 (some (.int r0))) args s 0 0 A0) (F0 m 23 ls []) := by
  intro n11
  induction n11 with
  | zero =>
    intro q4 x5 x6 x7 x8 x9 x10 σ3 H locs ls h hW hl
    rw [f_X7_append_L23] at h
    cases h
  | succ n11 ih =>
    intro q4 x5 x6 x7 x8 x9 x10 σ3 H locs ls h hW hl
    rw [f_X7_append_L23] at h
    refine lv_iload E.1 E.2.1 dX7_append_23 (lv_at hl 6 rfl) ?_
    refine lv_bipush (v := (20 : Int32)) E.1 E.2.1 dX7_append_25 (by decide) ?_
    refine lv_icmp_ge (tgt := 120) E.1 E.2.1 dX7_append_27 (by decide) (fun g => ?_) (fun g => ?_)
    · have h := ifp h g
      refine lv_aload_n E.1 E.2.1 dX7_append_120 rfl (lv_at hl 0 rfl) ?_
      obtain ⟨g12, h⟩ := gd_r h
      refine gf_X7_161 E hW g12 dX7_append_121 ?_
      exact e_i E hW hr hlk h dX7_append_124
    · have h := ifn h g
      refine lv_iload E.1 E.2.1 dX7_append_30 (lv_at hl 6 rfl) ?_
      refine lv_iconst (v := (4 : Int32)) E.1 E.2.1 dX7_append_32 (by decide) ?_
      obtain ⟨J22, eJ22, h⟩ := bnd_x h
      have hJ22 : ∀ (q14 : Nat) (x15 : Int32) (x16 : Int32) (x17 : Int32) (x18 : Int32) (x19 : Int32) (x20 : Int32) (x21 : Int32) (σ13 : St) (H : Heap) (locs : List Loc) (ls : Array Slot), J22 q14 x15 x16 x17 x18 x19 x20 x21 σ13 = some (r0, σ0) → Wo G skR A0 s σ13 H locs → lv_has ls 8 [(0, .ref (G.2.2.2 + q14)), (1, .int x15), (2, .int x16), (3, .int x17), (4, .int x18), (5, .int x19), (6, .int x20)] → W p l e ({ frames := 0, cells := 0, slots := 0, locals := 0 } : Room) s m args below meth c H locs 0 0 (MQ below (QO (PoC G skR σ0) A0 (some (.int r0))) args s 0 0 A0) (F0 m 76 ls [.int x21]) := by
        intro q14 x15 x16 x17 x18 x19 x20 x21 σ13 H locs ls h hW hl
        have h := jr9 eJ22 h
        refine lv_istore (lv' := [(7, .int x21), (0, .ref (G.2.2.2 + q14)), (1, .int x15), (2, .int x16), (3, .int x17), (4, .int x18), (5, .int x19), (6, .int x20)]) E.1 E.2.1 dX7_append_76 hl (by decide) rfl (fun ls hl => ?_)
        refine lv_aload_n E.1 E.2.1 dX7_append_78 rfl (lv_at hl 1 rfl) ?_
        obtain ⟨g23, h⟩ := gd_r h
        refine gf_X7_9 E hW g23 dX7_append_79 ?_
        refine lv_aload_n E.1 E.2.1 dX7_append_82 rfl (lv_at hl 1 rfl) ?_
        refine gf_X7_161 E hW g23 dX7_append_83 ?_
        refine lv_iload E.1 E.2.1 dX7_append_86 (lv_at hl 0 rfl) ?_
        refine lv_bipush (v := (24 : Int32)) E.1 E.2.1 dX7_append_88 (by decide) ?_
        refine lv_bipush (v := (8 : Int32)) E.1 E.2.1 dX7_append_90 (by decide) ?_
        refine lv_iload E.1 E.2.1 dX7_append_92 (lv_at hl 7 rfl) ?_
        refine lv_iconst (v := (4 : Int32)) E.1 E.2.1 dX7_append_94 (by decide) ?_
        refine lv_irem E.1 E.2.1 dX7_append_95 (by decide) ?_
        refine lv_imul E.1 E.2.1 dX7_append_96 ?_
        refine lv_isub E.1 E.2.1 dX7_append_97 ?_
        refine lv_ishr E.1 E.2.1 dX7_append_98 ?_
        refine lv_sipush (v := (255 : Int32)) E.1 E.2.1 dX7_append_99 (by decide) ?_
        refine lv_iand E.1 E.2.1 dX7_append_102 ?_
        obtain ⟨g24, h⟩ := gd_r h
        refine r_iast E hW (pr_eq g24.1) g24.2 dX7_append_103 (fun σ25 H locs eσ25 hW => ?_)
        have h := bnd_r eσ25 h
        refine lv_aload_n E.1 E.2.1 dX7_append_104 rfl (lv_at hl 1 rfl) ?_
        refine lv_dup E.1 E.2.1 dX7_append_105 rfl ?_
        refine gf_X7_161 E hW g23 dX7_append_106 ?_
        refine lv_iconst (v := (1 : Int32)) E.1 E.2.1 dX7_append_109 (by decide) ?_
        refine lv_iadd E.1 E.2.1 dX7_append_110 ?_
        refine pf_X7_161 E hW g23 dX7_append_111 (fun σ26 H locs eσ26 hW => ?_)
        have h := bnd_r eσ26 h
        obtain ⟨x27, ex27⟩ : ∃ y : Int32, y = x20 + (1 : Int32) := ⟨_, rfl⟩
        have h := bnd_r ex27 h
        refine lv_iinc (v := x27) (lv' := [(6, .int x27), (7, .int x21), (0, .ref (G.2.2.2 + q14)), (1, .int x15), (2, .int x16), (3, .int x17), (4, .int x18), (5, .int x19)]) E.1 E.2.1 dX7_append_114 hl (k := 7) rfl (by rw [ex27]; rfl) (by decide) rfl (fun ls hl => ?_)
        refine lv_goto (tgt := 23) E.1 E.2.1 dX7_append_117 (by decide) ?_
        exact ih _ _ _ _ _ _ _ _ _ _ _ h hW (lv_sub hl [2, 3, 4, 5, 6, 7, 0] rfl)
      refine lv_icmp_ge (tgt := 40) E.1 E.2.1 dX7_append_33 (by decide) (fun g => ?_) (fun g => ?_)
      · have h := ifp h g
        refine lv_iload E.1 E.2.1 dX7_append_40 (lv_at hl 6 rfl) ?_
        refine lv_bipush (v := (8 : Int32)) E.1 E.2.1 dX7_append_42 (by decide) ?_
        refine lv_icmp_ge (tgt := 51) E.1 E.2.1 dX7_append_44 (by decide) (fun g => ?_) (fun g => ?_)
        · have h := ifp h g
          refine lv_iload E.1 E.2.1 dX7_append_51 (lv_at hl 6 rfl) ?_
          refine lv_bipush (v := (12 : Int32)) E.1 E.2.1 dX7_append_53 (by decide) ?_
          refine lv_icmp_ge (tgt := 62) E.1 E.2.1 dX7_append_55 (by decide) (fun g => ?_) (fun g => ?_)
          · have h := ifp h g
            refine lv_iload E.1 E.2.1 dX7_append_62 (lv_at hl 6 rfl) ?_
            refine lv_bipush (v := (16 : Int32)) E.1 E.2.1 dX7_append_64 (by decide) ?_
            refine lv_icmp_ge (tgt := 74) E.1 E.2.1 dX7_append_66 (by decide) (fun g => ?_) (fun g => ?_)
            · have h := ifp h g
              refine lv_iload E.1 E.2.1 dX7_append_74 (lv_at hl 5 rfl) ?_
              exact hJ22 _ _ _ _ _ _ _ _ _ _ _ _ h hW (lv_sub hl [0, 1, 2, 3, 4, 5, 6] rfl)
            · have h := ifn h g
              refine lv_iload E.1 E.2.1 dX7_append_69 (lv_at hl 4 rfl) ?_
              refine lv_goto (tgt := 76) E.1 E.2.1 dX7_append_71 (by decide) ?_
              exact hJ22 _ _ _ _ _ _ _ _ _ _ _ _ h hW (lv_sub hl [0, 1, 2, 3, 4, 5, 6] rfl)
          · have h := ifn h g
            refine lv_iload_n E.1 E.2.1 dX7_append_58 rfl (lv_at hl 3 rfl) ?_
            refine lv_goto (tgt := 76) E.1 E.2.1 dX7_append_59 (by decide) ?_
            exact hJ22 _ _ _ _ _ _ _ _ _ _ _ _ h hW (lv_sub hl [0, 1, 2, 3, 4, 5, 6] rfl)
        · have h := ifn h g
          refine lv_iload_n E.1 E.2.1 dX7_append_47 rfl (lv_at hl 2 rfl) ?_
          refine lv_goto (tgt := 76) E.1 E.2.1 dX7_append_48 (by decide) ?_
          exact hJ22 _ _ _ _ _ _ _ _ _ _ _ _ h hW (lv_sub hl [0, 1, 2, 3, 4, 5, 6] rfl)
      · have h := ifn h g
        refine lv_iload_n E.1 E.2.1 dX7_append_36 rfl (lv_at hl 1 rfl) ?_
        refine lv_goto (tgt := 76) E.1 E.2.1 dX7_append_37 (by decide) ?_
        exact hJ22 _ _ _ _ _ _ _ _ _ _ _ _ h hW (lv_sub hl [0, 1, 2, 3, 4, 5, 6] rfl)
set_option maxHeartbeats 4000000 in
set_option maxRecDepth 100000 in
theorem m_X7_append {l : Launch} {G : GP} {sz : Nat} {q0 : Nat} {a1 : Int32} {a2 : Int32} {a3 : Int32} {a4 : Int32} {a5 : Int32} {σ σ0 : St} {r0 : Int32} (h : f_X7_append q0 a1 a2 a3 a4 a5 σ = some (r0, σ0)) : Met l yX7_append [.code yX7_append cX7_append 8 (some .int)] ({ frames := 0, cells := 0, slots := 0, locals := 0 } : Room) (va_Pc [.ref (G.2.2.2 + q0), .int a1, .int a2, .int a3, .int a4, .int a5] (PreC G skR sz σ)) (QO (PoC G skR σ0) (Aw G.2.2.2 skR.1 sz) (some (.int r0))) 0 0 (Aw G.2.2.2 skR.1 sz) := by
  refine mkMet (by decide +kernel) (Nat.le_of_ble_eq_true rfl) skR_ok ?_
  intro p e s m below meth c ls E hW hl hr hlk
  have hl : lv_has ls 8 [(0, .ref (G.2.2.2 + q0)), (1, .int a1), (2, .int a2), (3, .int a3), (4, .int a4), (5, .int a5)] := hl
  generalize Aw G.2.2.2 skR.1 s.heap.size = A0 at E hW ⊢
  generalize ([.ref (G.2.2.2 + q0), .int a1, .int a2, .int a3, .int a4, .int a5] : List Value).toArray = args
  unfold f_X7_append at h
  refine lv_aload_n E.1 E.2.1 dX7_append_0 rfl (lv_at hl 0 rfl) ?_
  refine lv_iconst (v := (0 : Int32)) E.1 E.2.1 dX7_append_1 (by decide) ?_
  obtain ⟨g1, h⟩ := gd_r h
  refine pf_X7_79 E hW g1 dX7_append_2 (fun σ2 H locs eσ2 hW => ?_)
  have h := bnd_r eσ2 h
  refine lv_aload_n E.1 E.2.1 dX7_append_5 rfl (lv_at hl 0 rfl) ?_
  refine gf_X7_161 E hW g1 dX7_append_6 ?_
  refine lv_bipush (v := (20 : Int32)) E.1 E.2.1 dX7_append_9 (by decide) ?_
  refine lv_iadd E.1 E.2.1 dX7_append_11 ?_
  refine lv_sipush (v := (700 : Int32)) E.1 E.2.1 dX7_append_12 (by decide) ?_
  refine lv_icmp_le (tgt := 20) E.1 E.2.1 dX7_append_15 (by decide) (fun g => ?_) (fun g => ?_)
  · have h := ifp h g
    refine lv_iconst (v := (0 : Int32)) E.1 E.2.1 dX7_append_20 (by decide) ?_
    refine lv_istore (lv' := [(6, .int (0 : Int32)), (0, .ref (G.2.2.2 + q0)), (1, .int a1), (2, .int a2), (3, .int a3), (4, .int a4), (5, .int a5)]) E.1 E.2.1 dX7_append_21 hl (by decide) rfl (fun ls hl => ?_)
    refine L_X7_append_23 E hr hlk _ _ _ _ _ _ _ _ _ _ _ _ h hW (lv_sub hl [1, 2, 3, 4, 5, 6, 0] rfl)
  · have h := ifn h g
    refine lv_iconst (v := (-1 : Int32)) E.1 E.2.1 dX7_append_18 (by decide) ?_
    exact e_i E hW hr hlk h dX7_append_19
set_option maxHeartbeats 4000000 in
set_option maxRecDepth 100000 in
theorem m_X7_byteAt {l : Launch} {G : GP} {sz : Nat} {q0 : Nat} {a1 : Int32} {σ σ0 : St} {r0 : Int32} (h : f_X7_byteAt q0 a1 σ = some (r0, σ0)) : Met l yX7_byteAt [.code yX7_byteAt cX7_byteAt 2 (some .int)] ({ frames := 0, cells := 0, slots := 0, locals := 0 } : Room) (va_Pc [.ref (G.2.2.2 + q0), .int a1] (PreC G skR sz σ)) (QO (PoC G skR σ0) (Aw G.2.2.2 skR.1 sz) (some (.int r0))) 0 0 (Aw G.2.2.2 skR.1 sz) := by
  refine mkMet (by decide +kernel) (Nat.le_of_ble_eq_true rfl) skR_ok ?_
  intro p e s m below meth c ls E hW hl hr hlk
  have hl : lv_has ls 2 [(0, .ref (G.2.2.2 + q0)), (1, .int a1)] := hl
  generalize Aw G.2.2.2 skR.1 s.heap.size = A0 at E hW ⊢
  generalize ([.ref (G.2.2.2 + q0), .int a1] : List Value).toArray = args
  unfold f_X7_byteAt at h
  refine lv_iload_n E.1 E.2.1 dX7_byteAt_0 rfl (lv_at hl 1 rfl) ?_
  refine lv_aload_n E.1 E.2.1 dX7_byteAt_1 rfl (lv_at hl 0 rfl) ?_
  obtain ⟨g1, h⟩ := gd_r h
  refine gf_X7_164 E hW g1 dX7_byteAt_2 ?_
  refine lv_icmp_ge (tgt := 17) E.1 E.2.1 dX7_byteAt_5 (by decide) (fun g => ?_) (fun g => ?_)
  · have h := ifp h g
    refine lv_iconst (v := (-1 : Int32)) E.1 E.2.1 dX7_byteAt_17 (by decide) ?_
    exact e_i E hW hr hlk h dX7_byteAt_18
  · have h := ifn h g
    refine lv_aload_n E.1 E.2.1 dX7_byteAt_8 rfl (lv_at hl 0 rfl) ?_
    refine gf_X7_9 E hW g1 dX7_byteAt_9 ?_
    refine lv_iload_n E.1 E.2.1 dX7_byteAt_12 rfl (lv_at hl 1 rfl) ?_
    obtain ⟨g2, h⟩ := gd_r h
    refine r_iald E hW (pr_eq g2.1) g2.2 dX7_byteAt_13 ?_
    refine lv_goto (tgt := 18) E.1 E.2.1 dX7_byteAt_14 (by decide) ?_
    exact e_i E hW hr hlk h dX7_byteAt_18
set_option maxHeartbeats 4000000 in
set_option maxRecDepth 100000 in
theorem L_X7_next_0 {p : Program} {l : Launch} {e : Env} {s : State} {m : MethodId} {args : Array Value} {below : List Frame} {meth : Method} {c : Code} {G : GP} {A0 : Nat → Prop} {σ0 : St} {r0 : Int32} {K26 : Nat → St → Option (Int32 × St)} (E : En p m c s cX7_next 1 yX7_next.cls G A0) (hr : meth.sig.returnType = (some .int)) (hlk : meth.locks = false) (hK26 : ∀ (q4 : Nat) (σ3 : St) (H : Heap) (locs : List Loc) (ls : Array Slot), K26 q4 σ3 = some (r0, σ0) → Wo G skR A0 s σ3 H locs → lv_has ls 1 [(0, .ref (G.2.2.2 + q4))] → W p l e ({ frames := 1, cells := 0, slots := 0, locals := 21 } : Room) s m args below meth c H locs 0 0 (MQ below (QO (PoC G skR σ0) A0 (some (.int r0))) args s 0 0 A0) (F0 m 26 ls [])) : ∀ (n5 : Nat) (q2 : Nat) (σ1 : St) (H : Heap) (locs : List Loc) (ls : Array Slot), f_X7_next_L0 K26 n5 q2 σ1 = some (r0, σ0) → Wo G skR A0 s σ1 H locs → lv_has ls 1 [(0, .ref (G.2.2.2 + q2))] → W p l e ({ frames := 1, cells := 0, slots := 0, locals := 21 } : Room) s m args below meth c H locs 0 0 (MQ below (QO (PoC G skR σ0) A0 (some (.int r0))) args s 0 0 A0) (F0 m 0 ls []) := by
  intro n5
  induction n5 with
  | zero =>
    intro q2 σ1 H locs ls h hW hl
    rw [f_X7_next_L0] at h
    cases h
  | succ n5 ih =>
    intro q2 σ1 H locs ls h hW hl
    rw [f_X7_next_L0] at h
    refine lv_aload_n E.1 E.2.1 dX7_next_0 rfl (lv_at hl 0 rfl) ?_
    refine lv_aload_n E.1 E.2.1 dX7_next_1 rfl (lv_at hl 0 rfl) ?_
    obtain ⟨g6, h⟩ := gd_r h
    refine gf_X7_167 E hW g6 dX7_next_2 ?_
    obtain ⟨x8, σ7, c9, h⟩ := obn_r h
    refine c_V (As := [.int (σ1.1 q2 4)]) (rest := []) E hW (m_X7_byteAt c9) g6 rfl kw_1032 wv_X7_byteAt yo_X7_byteAt ⟨rfl, rfl⟩ ⟨(Nat.le_of_ble_eq_true rfl), (Nat.le_of_ble_eq_true rfl)⟩ (lv_size hl) (Nat.le_of_ble_eq_true rfl) ⟨(Nat.le_of_ble_eq_true rfl), (Nat.le_of_ble_eq_true rfl)⟩ rfl dX7_next_5 (fun H locs hW => ?_)
    refine W.eq (g2 := F0 m 8 ls [.int x8]) rfl ?_
    refine lv_bipush (v := (32 : Int32)) E.1 E.2.1 dX7_next_8 (by decide) ?_
    refine lv_icmp_ne (tgt := 26) E.1 E.2.1 dX7_next_10 (by decide) (fun g => ?_) (fun g => ?_)
    · have h := ifn h g
      exact hK26 _ _ _ _ _ h hW (lv_sub hl [0] rfl)
    · have h := ifp h g
      refine lv_aload_n E.1 E.2.1 dX7_next_13 rfl (lv_at hl 0 rfl) ?_
      refine lv_dup E.1 E.2.1 dX7_next_14 rfl ?_
      refine gf_X7_167 E hW g6 dX7_next_15 ?_
      refine lv_iconst (v := (1 : Int32)) E.1 E.2.1 dX7_next_18 (by decide) ?_
      refine lv_iadd E.1 E.2.1 dX7_next_19 ?_
      refine pf_X7_167 E hW g6 dX7_next_20 (fun σ10 H locs eσ10 hW => ?_)
      have h := bnd_r eσ10 h
      refine lv_goto (tgt := 0) E.1 E.2.1 dX7_next_23 (by decide) ?_
      exact ih _ _ _ _ _ h hW (lv_sub hl [0] rfl)
set_option maxHeartbeats 4000000 in
set_option maxRecDepth 100000 in
theorem m_X7_next {l : Launch} {G : GP} {sz : Nat} {q0 : Nat} {σ σ0 : St} {r0 : Int32} (h : f_X7_next q0 σ = some (r0, σ0)) : Met l yX7_next [.code yX7_next cX7_next 1 (some .int)] ({ frames := 1, cells := 0, slots := 0, locals := 21 } : Room) (va_Pc [.ref (G.2.2.2 + q0)] (PreC G skR sz σ)) (QO (PoC G skR σ0) (Aw G.2.2.2 skR.1 sz) (some (.int r0))) 0 0 (Aw G.2.2.2 skR.1 sz) := by
  refine mkMet (by decide +kernel) (Nat.le_of_ble_eq_true rfl) skR_ok ?_
  intro p e s m below meth c ls E hW hl hr hlk
  have hl : lv_has ls 1 [(0, .ref (G.2.2.2 + q0))] := hl
  generalize Aw G.2.2.2 skR.1 s.heap.size = A0 at E hW ⊢
  generalize ([.ref (G.2.2.2 + q0)] : List Value).toArray = args
  unfold f_X7_next at h
  refine L_X7_next_0 E hr hlk ?_ _ _ _ _ _ _ h hW (lv_sub hl [0] rfl)
  · intro q4 σ3 H locs ls h hW hl
    refine lv_aload_n E.1 E.2.1 dX7_next_26 rfl (lv_at hl 0 rfl) ?_
    refine lv_aload_n E.1 E.2.1 dX7_next_27 rfl (lv_at hl 0 rfl) ?_
    obtain ⟨g11, h⟩ := gd_r h
    refine gf_X7_167 E hW g11 dX7_next_28 ?_
    obtain ⟨x13, σ12, c14, h⟩ := obn_r h
    refine c_V (As := [.int (σ3.1 q4 4)]) (rest := []) E hW (m_X7_byteAt c14) g11 rfl kw_1032 wv_X7_byteAt yo_X7_byteAt ⟨rfl, rfl⟩ ⟨(Nat.le_of_ble_eq_true rfl), (Nat.le_of_ble_eq_true rfl)⟩ (lv_size hl) (Nat.le_of_ble_eq_true rfl) ⟨(Nat.le_of_ble_eq_true rfl), (Nat.le_of_ble_eq_true rfl)⟩ rfl dX7_next_31 (fun H locs hW => ?_)
    refine W.eq (g2 := F0 m 34 ls [.int x13]) rfl ?_
    exact e_i E hW hr hlk h dX7_next_34
