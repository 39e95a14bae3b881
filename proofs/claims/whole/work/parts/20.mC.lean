set_option maxHeartbeats 4000000 in
set_option maxRecDepth 100000 in
theorem m_J9_floorDiv_f86c9 {l : Launch} {G : GP} {sz : Nat} {a0 : Int64} {a2 : Int64} {σ σ0 : St} {r0 : Int64} (h : f_J9_floorDiv_f86c9 a0 a2 σ = some (r0, σ0)) : Met l yJ9_floorDiv_f86c9 [.code yJ9_floorDiv_f86c9 cJ9_floorDiv_f86c9 6 (some .long)] ({ frames := 0, cells := 0, slots := 0, locals := 0 } : Room) (va_Pc [.long a0, .long a2] (PreC G skC sz σ)) (QO (PoC G skC σ0) (Aw G.2.2.2 skC.1 sz) (some (.long r0))) 0 0 (Aw G.2.2.2 skC.1 sz) := by
  refine mkMet (by decide +kernel) (Nat.le_of_ble_eq_true rfl) skC_ok ?_
  intro p e s m below meth c ls E hW hl hr hlk
  have hl : lv_has ls 6 [(0, .long a0), (2, .long a2)] := hl
  generalize Aw G.2.2.2 skC.1 s.heap.size = A0 at E hW ⊢
  generalize ([.long a0, .long a2] : List Value).toArray = args
  unfold f_J9_floorDiv_f86c9 at h
  refine lv_lload_n E.1 E.2.1 dJ9_floorDiv_f86c9_0 rfl (lv_at hl 0 rfl) ?_
  refine lv_lload_n E.1 E.2.1 dJ9_floorDiv_f86c9_1 rfl (lv_at hl 1 rfl) ?_
  obtain ⟨g1, h⟩ := gd_r h
  refine lv_ldiv E.1 E.2.1 dJ9_floorDiv_f86c9_2 g1 ?_
  refine lv_topl (fun x2 ex2 => ?_)
  have h := bnd_r ex2 h
  refine lv_lstore (lv' := [(4, .long x2), (0, .long a0), (2, .long a2)]) E.1 E.2.1 dJ9_floorDiv_f86c9_3 hl (by decide) rfl (fun ls hl => ?_)
  refine lv_lload_n E.1 E.2.1 dJ9_floorDiv_f86c9_5 rfl (lv_at hl 1 rfl) ?_
  refine lv_lload_n E.1 E.2.1 dJ9_floorDiv_f86c9_6 rfl (lv_at hl 2 rfl) ?_
  refine lv_lxor E.1 E.2.1 dJ9_floorDiv_f86c9_7 ?_
  refine lv_lconst (v := (0 : Int64)) E.1 E.2.1 dJ9_floorDiv_f86c9_8 (by decide) ?_
  refine r_lc_ge E dJ9_floorDiv_f86c9_9 dJ9_floorDiv_f86c9_10 (tgt := 27) (by decide) (fun g => ?_) (fun g => ?_)
  · have h := ifn h g
    refine lv_lload E.1 E.2.1 dJ9_floorDiv_f86c9_27 (lv_at hl 0 rfl) ?_
    exact e_j E hW hr hlk h dJ9_floorDiv_f86c9_29
  · have h := ifp h g
    refine lv_lload E.1 E.2.1 dJ9_floorDiv_f86c9_13 (lv_at hl 0 rfl) ?_
    refine lv_lload_n E.1 E.2.1 dJ9_floorDiv_f86c9_15 rfl (lv_at hl 2 rfl) ?_
    refine lv_lmul E.1 E.2.1 dJ9_floorDiv_f86c9_16 ?_
    refine lv_lload_n E.1 E.2.1 dJ9_floorDiv_f86c9_17 rfl (lv_at hl 1 rfl) ?_
    refine r_lc_eq E dJ9_floorDiv_f86c9_18 dJ9_floorDiv_f86c9_19 (tgt := 27) (by decide) (fun g => ?_) (fun g => ?_)
    · have h := ifp h g
      refine lv_lload E.1 E.2.1 dJ9_floorDiv_f86c9_27 (lv_at hl 0 rfl) ?_
      exact e_j E hW hr hlk h dJ9_floorDiv_f86c9_29
    · have h := ifn h g
      refine lv_lload E.1 E.2.1 dJ9_floorDiv_f86c9_22 (lv_at hl 0 rfl) ?_
      refine lv_lconst (v := (1 : Int64)) E.1 E.2.1 dJ9_floorDiv_f86c9_24 (by decide) ?_
      refine lv_lsub E.1 E.2.1 dJ9_floorDiv_f86c9_25 ?_
      exact e_j E hW hr hlk h dJ9_floorDiv_f86c9_26
set_option maxHeartbeats 4000000 in
set_option maxRecDepth 100000 in
theorem L_J7_fill_d0a16_6 {p : Program} {l : Launch} {e : Env} {s : State} {m : MethodId} {args : Array Value} {below : List Frame} {meth : Method} {c : Code} {G : GP} {A0 : Nat → Prop} {σ0 : St} {r0 : Unit} (E : En p m c s cJ7_fill_d0a16 5 yJ7_fill_d0a16.cls G A0) (hr : meth.sig.returnType = none) (hlk : meth.locks = false) : ∀ (n8 : Nat) (q4 : Nat) (x5 : Int64) (x6 : Int32) (x7 : Int32) (σ3 : St) (H : Heap) (locs : List Loc) (ls : Array Slot), f_J7_fill_d0a16_L6 n8 q4 x5 x6 x7 σ3 = some (r0, σ0) → Wo G skC A0 s σ3 H locs → lv_has ls 5 [(0, .ref (G.2.2.2 + q4)), (1, .long x5), (3, .int x6), (4, .int x7)] → W p l e ({ frames := 0, cells := 0, slots := 0, locals := 0 } : Room) s m args below meth c H locs 0 0 (MQ below (QO (PoC G skC σ0) A0 none) args s 0 0 A0) (F0 m 6 ls []) := by
  intro n8
  induction n8 with
  | zero =>
    intro q4 x5 x6 x7 σ3 H locs ls h hW hl
    rw [f_J7_fill_d0a16_L6] at h
    cases h
  | succ n8 ih =>
    intro q4 x5 x6 x7 σ3 H locs ls h hW hl
    rw [f_J7_fill_d0a16_L6] at h
    refine lv_iload_n E.1 E.2.1 dJ7_fill_d0a16_6 rfl (lv_at hl 2 rfl) ?_
    refine lv_iload E.1 E.2.1 dJ7_fill_d0a16_7 (lv_at hl 3 rfl) ?_
    refine lv_icmp_ge (tgt := 22) E.1 E.2.1 dJ7_fill_d0a16_9 (by decide) (fun g => ?_) (fun g => ?_)
    · have h := ifp h g
      exact e_v E hW hr hlk h dJ7_fill_d0a16_22
    · have h := ifn h g
      refine lv_aload_n E.1 E.2.1 dJ7_fill_d0a16_12 rfl (lv_at hl 0 rfl) ?_
      refine lv_iload_n E.1 E.2.1 dJ7_fill_d0a16_13 rfl (lv_at hl 2 rfl) ?_
      refine lv_lload_n E.1 E.2.1 dJ7_fill_d0a16_14 rfl (lv_at hl 1 rfl) ?_
      obtain ⟨g9, h⟩ := gd_r h
      refine r_last E hW (pr_eq g9.1) g9.2 dJ7_fill_d0a16_15 (fun σ10 H locs eσ10 hW => ?_)
      have h := bnd_r eσ10 h
      obtain ⟨x11, ex11⟩ : ∃ y : Int32, y = x6 + (1 : Int32) := ⟨_, rfl⟩
      have h := bnd_r ex11 h
      refine lv_iinc (v := x11) (lv' := [(3, .int x11), (0, .ref (G.2.2.2 + q4)), (1, .long x5), (4, .int x7)]) E.1 E.2.1 dJ7_fill_d0a16_16 hl (k := 2) rfl (by rw [ex11]; rfl) (by decide) rfl (fun ls hl => ?_)
      refine lv_goto (tgt := 6) E.1 E.2.1 dJ7_fill_d0a16_19 (by decide) ?_
      exact ih _ _ _ _ _ _ _ _ h hW (lv_sub hl [1, 2, 0, 3] rfl)
set_option maxHeartbeats 4000000 in
set_option maxRecDepth 100000 in
theorem m_J7_fill_d0a16 {l : Launch} {G : GP} {sz : Nat} {q0 : Nat} {a1 : Int64} {σ σ0 : St} {r0 : Unit} (h : f_J7_fill_d0a16 q0 a1 σ = some (r0, σ0)) : Met l yJ7_fill_d0a16 [.code yJ7_fill_d0a16 cJ7_fill_d0a16 5 none] ({ frames := 0, cells := 0, slots := 0, locals := 0 } : Room) (va_Pc [.ref (G.2.2.2 + q0), .long a1] (PreC G skC sz σ)) (QO (PoC G skC σ0) (Aw G.2.2.2 skC.1 sz) none) 0 0 (Aw G.2.2.2 skC.1 sz) := by
  refine mkMet (by decide +kernel) (Nat.le_of_ble_eq_true rfl) skC_ok ?_
  intro p e s m below meth c ls E hW hl hr hlk
  have hl : lv_has ls 5 [(0, .ref (G.2.2.2 + q0)), (1, .long a1)] := hl
  generalize Aw G.2.2.2 skC.1 s.heap.size = A0 at E hW ⊢
  generalize ([.ref (G.2.2.2 + q0), .long a1] : List Value).toArray = args
  unfold f_J7_fill_d0a16 at h
  refine lv_iconst (v := (0 : Int32)) E.1 E.2.1 dJ7_fill_d0a16_0 (by decide) ?_
  refine lv_istore_n (lv' := [(3, .int (0 : Int32)), (0, .ref (G.2.2.2 + q0)), (1, .long a1)]) E.1 E.2.1 dJ7_fill_d0a16_1 rfl hl (by decide) rfl (fun ls hl => ?_)
  refine lv_aload_n E.1 E.2.1 dJ7_fill_d0a16_2 rfl (lv_at hl 1 rfl) ?_
  obtain ⟨g1, h⟩ := gd_r h
  refine r_alenJ E hW (pr_eq g1) dJ7_fill_d0a16_3 ?_
  refine lv_topi (fun x2 ex2 => ?_)
  have h := bnd_r ex2 h
  refine lv_istore (lv' := [(4, .int x2), (3, .int (0 : Int32)), (0, .ref (G.2.2.2 + q0)), (1, .long a1)]) E.1 E.2.1 dJ7_fill_d0a16_4 hl (by decide) rfl (fun ls hl => ?_)
  refine L_J7_fill_d0a16_6 E hr hlk _ _ _ _ _ _ _ _ _ h hW (lv_sub hl [2, 3, 1, 0] rfl)
set_option maxHeartbeats 4000000 in
set_option maxRecDepth 100000 in
theorem m_J6_bitCount_0f7a4 {l : Launch} {G : GP} {sz : Nat} {a0 : Int32} {σ σ0 : St} {r0 : Int32} (h : f_J6_bitCount_0f7a4 a0 σ = some (r0, σ0)) : Met l yJ6_bitCount_0f7a4 [.code yJ6_bitCount_0f7a4 cJ6_bitCount_0f7a4 1 (some .int)] ({ frames := 0, cells := 0, slots := 0, locals := 0 } : Room) (va_Pc [.int a0] (PreC G skC sz σ)) (QO (PoC G skC σ0) (Aw G.2.2.2 skC.1 sz) (some (.int r0))) 0 0 (Aw G.2.2.2 skC.1 sz) := by
  refine mkMet (by decide +kernel) (Nat.le_of_ble_eq_true rfl) skC_ok ?_
  intro p e s m below meth c ls E hW hl hr hlk
  have hl : lv_has ls 1 [(0, .int a0)] := hl
  generalize Aw G.2.2.2 skC.1 s.heap.size = A0 at E hW ⊢
  generalize ([.int a0] : List Value).toArray = args
  unfold f_J6_bitCount_0f7a4 at h
  refine lv_iload_n E.1 E.2.1 dJ6_bitCount_0f7a4_0 rfl (lv_at hl 0 rfl) ?_
  refine lv_iload_n E.1 E.2.1 dJ6_bitCount_0f7a4_1 rfl (lv_at hl 0 rfl) ?_
  refine lv_iconst (v := (1 : Int32)) E.1 E.2.1 dJ6_bitCount_0f7a4_2 (by decide) ?_
  refine lv_iushr E.1 E.2.1 dJ6_bitCount_0f7a4_3 rfl ?_
  refine lv_ldcw (v := (1431655765 : Int32)) E.1 E.2.1 E.2.2.2.1 (E.wd kw_629) dJ6_bitCount_0f7a4_4 ?_
  refine lv_iand E.1 E.2.1 dJ6_bitCount_0f7a4_7 ?_
  refine lv_isub E.1 E.2.1 dJ6_bitCount_0f7a4_8 ?_
  refine lv_topi (fun x1 ex1 => ?_)
  have h := bnd_r ex1 h
  refine lv_istore_n (lv' := [(0, .int x1)]) E.1 E.2.1 dJ6_bitCount_0f7a4_9 rfl hl (by decide) rfl (fun ls hl => ?_)
  refine lv_iload_n E.1 E.2.1 dJ6_bitCount_0f7a4_10 rfl (lv_at hl 0 rfl) ?_
  refine lv_ldcw (v := (858993459 : Int32)) E.1 E.2.1 E.2.2.2.1 (E.wd kw_630) dJ6_bitCount_0f7a4_11 ?_
  refine lv_iand E.1 E.2.1 dJ6_bitCount_0f7a4_14 ?_
  refine lv_iload_n E.1 E.2.1 dJ6_bitCount_0f7a4_15 rfl (lv_at hl 0 rfl) ?_
  refine lv_iconst (v := (2 : Int32)) E.1 E.2.1 dJ6_bitCount_0f7a4_16 (by decide) ?_
  refine lv_iushr E.1 E.2.1 dJ6_bitCount_0f7a4_17 rfl ?_
  refine lv_ldcw (v := (858993459 : Int32)) E.1 E.2.1 E.2.2.2.1 (E.wd kw_630) dJ6_bitCount_0f7a4_18 ?_
  refine lv_iand E.1 E.2.1 dJ6_bitCount_0f7a4_21 ?_
  refine lv_iadd E.1 E.2.1 dJ6_bitCount_0f7a4_22 ?_
  refine lv_topi (fun x2 ex2 => ?_)
  have h := bnd_r ex2 h
  refine lv_istore_n (lv' := [(0, .int x2)]) E.1 E.2.1 dJ6_bitCount_0f7a4_23 rfl hl (by decide) rfl (fun ls hl => ?_)
  refine lv_iload_n E.1 E.2.1 dJ6_bitCount_0f7a4_24 rfl (lv_at hl 0 rfl) ?_
  refine lv_iload_n E.1 E.2.1 dJ6_bitCount_0f7a4_25 rfl (lv_at hl 0 rfl) ?_
  refine lv_iconst (v := (4 : Int32)) E.1 E.2.1 dJ6_bitCount_0f7a4_26 (by decide) ?_
  refine lv_iushr E.1 E.2.1 dJ6_bitCount_0f7a4_27 rfl ?_
  refine lv_iadd E.1 E.2.1 dJ6_bitCount_0f7a4_28 ?_
  refine lv_ldcw (v := (252645135 : Int32)) E.1 E.2.1 E.2.2.2.1 (E.wd kw_631) dJ6_bitCount_0f7a4_29 ?_
  refine lv_iand E.1 E.2.1 dJ6_bitCount_0f7a4_32 ?_
  refine lv_topi (fun x3 ex3 => ?_)
  have h := bnd_r ex3 h
  refine lv_istore_n (lv' := [(0, .int x3)]) E.1 E.2.1 dJ6_bitCount_0f7a4_33 rfl hl (by decide) rfl (fun ls hl => ?_)
  refine lv_iload_n E.1 E.2.1 dJ6_bitCount_0f7a4_34 rfl (lv_at hl 0 rfl) ?_
  refine lv_iload_n E.1 E.2.1 dJ6_bitCount_0f7a4_35 rfl (lv_at hl 0 rfl) ?_
  refine lv_bipush (v := (8 : Int32)) E.1 E.2.1 dJ6_bitCount_0f7a4_36 (by decide) ?_
  refine lv_iushr E.1 E.2.1 dJ6_bitCount_0f7a4_38 rfl ?_
  refine lv_iadd E.1 E.2.1 dJ6_bitCount_0f7a4_39 ?_
  refine lv_topi (fun x4 ex4 => ?_)
  have h := bnd_r ex4 h
  refine lv_istore_n (lv' := [(0, .int x4)]) E.1 E.2.1 dJ6_bitCount_0f7a4_40 rfl hl (by decide) rfl (fun ls hl => ?_)
  refine lv_iload_n E.1 E.2.1 dJ6_bitCount_0f7a4_41 rfl (lv_at hl 0 rfl) ?_
  refine lv_iload_n E.1 E.2.1 dJ6_bitCount_0f7a4_42 rfl (lv_at hl 0 rfl) ?_
  refine lv_bipush (v := (16 : Int32)) E.1 E.2.1 dJ6_bitCount_0f7a4_43 (by decide) ?_
  refine lv_iushr E.1 E.2.1 dJ6_bitCount_0f7a4_45 rfl ?_
  refine lv_iadd E.1 E.2.1 dJ6_bitCount_0f7a4_46 ?_
  refine lv_topi (fun x5 ex5 => ?_)
  have h := bnd_r ex5 h
  refine lv_istore_n (lv' := [(0, .int x5)]) E.1 E.2.1 dJ6_bitCount_0f7a4_47 rfl hl (by decide) rfl (fun ls hl => ?_)
  refine lv_iload_n E.1 E.2.1 dJ6_bitCount_0f7a4_48 rfl (lv_at hl 0 rfl) ?_
  refine lv_bipush (v := (63 : Int32)) E.1 E.2.1 dJ6_bitCount_0f7a4_49 (by decide) ?_
  refine lv_iand E.1 E.2.1 dJ6_bitCount_0f7a4_51 ?_
  exact e_i E hW hr hlk h dJ6_bitCount_0f7a4_52
set_option maxHeartbeats 4000000 in
set_option maxRecDepth 100000 in
theorem L_X2_fits_2 {p : Program} {l : Launch} {e : Env} {s : State} {m : MethodId} {args : Array Value} {below : List Frame} {meth : Method} {c : Code} {G : GP} {A0 : Nat → Prop} {σ0 : St} {r0 : Int32} {K42 : Nat → St → Option (Int32 × St)} (E : En p m c s cX2_fits 2 yX2_fits.cls G A0) (hr : meth.sig.returnType = (some .boolean)) (hlk : meth.locks = false) (hK42 : ∀ (q5 : Nat) (σ4 : St) (H : Heap) (locs : List Loc) (ls : Array Slot), K42 q5 σ4 = some (r0, σ0) → Wo G skC A0 s σ4 H locs → lv_has ls 2 [(0, .ref (G.2.2.2 + q5))] → W p l e ({ frames := 0, cells := 0, slots := 0, locals := 0 } : Room) s m args below meth c H locs 0 0 (MQ below (QO (PoC G skC σ0) A0 (some (.int r0))) args s 0 0 A0) (F0 m 42 ls [])) : ∀ (n6 : Nat) (q2 : Nat) (x3 : Int32) (σ1 : St) (H : Heap) (locs : List Loc) (ls : Array Slot), f_X2_fits_L2 K42 n6 q2 x3 σ1 = some (r0, σ0) → Wo G skC A0 s σ1 H locs → lv_has ls 2 [(0, .ref (G.2.2.2 + q2)), (1, .int x3)] → W p l e ({ frames := 0, cells := 0, slots := 0, locals := 0 } : Room) s m args below meth c H locs 0 0 (MQ below (QO (PoC G skC σ0) A0 (some (.int r0))) args s 0 0 A0) (F0 m 2 ls []) := by
  intro n6
  induction n6 with
  | zero =>
    intro q2 x3 σ1 H locs ls h hW hl
    rw [f_X2_fits_L2] at h
    cases h
  | succ n6 ih =>
    intro q2 x3 σ1 H locs ls h hW hl
    rw [f_X2_fits_L2] at h
    refine lv_iload_n E.1 E.2.1 dX2_fits_2 rfl (lv_at hl 1 rfl) ?_
    refine lv_bipush (v := (10 : Int32)) E.1 E.2.1 dX2_fits_3 (by decide) ?_
    refine lv_icmp_ge (tgt := 42) E.1 E.2.1 dX2_fits_5 (by decide) (fun g => ?_) (fun g => ?_)
    · have h := ifp h g
      exact hK42 _ _ _ _ _ h hW (lv_sub hl [0] rfl)
    · have h := ifn h g
      refine lv_aload_n E.1 E.2.1 dX2_fits_8 rfl (lv_at hl 0 rfl) ?_
      obtain ⟨g7, h⟩ := gd_r h
      refine gf_X2_9 E hW g7 dX2_fits_9 ?_
      refine lv_iload_n E.1 E.2.1 dX2_fits_12 rfl (lv_at hl 1 rfl) ?_
      obtain ⟨g8, h⟩ := gd_r h
      refine r_lald E hW (pr_eq g8.1) g8.2 dX2_fits_13 ?_
      refine lv_ldc2 (v := (-100000000 : Int64)) E.1 E.2.1 E.2.2.2.1 (E.wd kw_530) dX2_fits_14 ?_
      refine r_lc_lt E dX2_fits_17 dX2_fits_18 (tgt := 34) (by decide) (fun g => ?_) (fun g => ?_)
      · have h := ifp h g
        refine lv_iconst (v := (0 : Int32)) E.1 E.2.1 dX2_fits_34 (by decide) ?_
        exact e_z E hW hr hlk (by decide) h dX2_fits_35
      · have h := ifn h g
        refine lv_aload_n E.1 E.2.1 dX2_fits_21 rfl (lv_at hl 0 rfl) ?_
        refine gf_X2_9 E hW g7 dX2_fits_22 ?_
        refine lv_iload_n E.1 E.2.1 dX2_fits_25 rfl (lv_at hl 1 rfl) ?_
        refine r_lald E hW (pr_eq g8.1) g8.2 dX2_fits_26 ?_
        refine lv_ldc2 (v := (100000000 : Int64)) E.1 E.2.1 E.2.2.2.1 (E.wd kw_531) dX2_fits_27 ?_
        refine r_lc_le E dX2_fits_30 dX2_fits_31 (tgt := 36) (by decide) (fun g => ?_) (fun g => ?_)
        · have h := ifn h g
          obtain ⟨x9, ex9⟩ : ∃ y : Int32, y = x3 + (1 : Int32) := ⟨_, rfl⟩
          have h := bnd_r ex9 h
          refine lv_iinc (v := x9) (lv' := [(1, .int x9), (0, .ref (G.2.2.2 + q2))]) E.1 E.2.1 dX2_fits_36 hl (k := 1) rfl (by rw [ex9]; rfl) (by decide) rfl (fun ls hl => ?_)
          refine lv_goto (tgt := 2) E.1 E.2.1 dX2_fits_39 (by decide) ?_
          exact ih _ _ _ _ _ _ h hW (lv_sub hl [1, 0] rfl)
        · have h := ifp h g
          refine lv_iconst (v := (0 : Int32)) E.1 E.2.1 dX2_fits_34 (by decide) ?_
          exact e_z E hW hr hlk (by decide) h dX2_fits_35
set_option maxHeartbeats 4000000 in
set_option maxRecDepth 100000 in
theorem m_X2_fits {l : Launch} {G : GP} {sz : Nat} {q0 : Nat} {σ σ0 : St} {r0 : Int32} (h : f_X2_fits q0 σ = some (r0, σ0)) : Met l yX2_fits [.code yX2_fits cX2_fits 2 (some .boolean)] ({ frames := 0, cells := 0, slots := 0, locals := 0 } : Room) (va_Pc [.ref (G.2.2.2 + q0)] (PreC G skC sz σ)) (QO (PoC G skC σ0) (Aw G.2.2.2 skC.1 sz) (some (.int r0))) 0 0 (Aw G.2.2.2 skC.1 sz) := by
  refine mkMet (by decide +kernel) (Nat.le_of_ble_eq_true rfl) skC_ok ?_
  intro p e s m below meth c ls E hW hl hr hlk
  have hl : lv_has ls 2 [(0, .ref (G.2.2.2 + q0))] := hl
  generalize Aw G.2.2.2 skC.1 s.heap.size = A0 at E hW ⊢
  generalize ([.ref (G.2.2.2 + q0)] : List Value).toArray = args
  unfold f_X2_fits at h
  refine lv_iconst (v := (0 : Int32)) E.1 E.2.1 dX2_fits_0 (by decide) ?_
  refine lv_istore_n (lv' := [(1, .int (0 : Int32)), (0, .ref (G.2.2.2 + q0))]) E.1 E.2.1 dX2_fits_1 rfl hl (by decide) rfl (fun ls hl => ?_)
  refine L_X2_fits_2 E hr hlk ?_ _ _ _ _ _ _ _ h hW (lv_sub hl [1, 0] rfl)
  · intro q5 σ4 H locs ls h hW hl
    refine lv_aload_n E.1 E.2.1 dX2_fits_42 rfl (lv_at hl 0 rfl) ?_
    obtain ⟨g10, h⟩ := gd_r h
    refine gf_X2_21 E hW g10 dX2_fits_43 ?_
    refine lv_ldc2 (v := (-100000000 : Int64)) E.1 E.2.1 E.2.2.2.1 (E.wd kw_530) dX2_fits_46 ?_
    refine r_lc_lt E dX2_fits_49 dX2_fits_50 (tgt := 90) (by decide) (fun g => ?_) (fun g => ?_)
    · have h := ifp h g
      refine lv_iconst (v := (0 : Int32)) E.1 E.2.1 dX2_fits_90 (by decide) ?_
      exact e_z E hW hr hlk (by decide) h dX2_fits_91
    · have h := ifn h g
      refine lv_aload_n E.1 E.2.1 dX2_fits_53 rfl (lv_at hl 0 rfl) ?_
      refine gf_X2_21 E hW g10 dX2_fits_54 ?_
      refine lv_ldc2 (v := (100000000 : Int64)) E.1 E.2.1 E.2.2.2.1 (E.wd kw_531) dX2_fits_57 ?_
      refine r_lc_gt E dX2_fits_60 dX2_fits_61 (tgt := 90) (by decide) (fun g => ?_) (fun g => ?_)
      · have h := ifp h g
        refine lv_iconst (v := (0 : Int32)) E.1 E.2.1 dX2_fits_90 (by decide) ?_
        exact e_z E hW hr hlk (by decide) h dX2_fits_91
      · have h := ifn h g
        refine lv_aload_n E.1 E.2.1 dX2_fits_64 rfl (lv_at hl 0 rfl) ?_
        refine gf_X2_25 E hW g10 dX2_fits_65 ?_
        refine lv_ldc2 (v := (-100000000 : Int64)) E.1 E.2.1 E.2.2.2.1 (E.wd kw_530) dX2_fits_68 ?_
        refine r_lc_lt E dX2_fits_71 dX2_fits_72 (tgt := 90) (by decide) (fun g => ?_) (fun g => ?_)
        · have h := ifp h g
          refine lv_iconst (v := (0 : Int32)) E.1 E.2.1 dX2_fits_90 (by decide) ?_
          exact e_z E hW hr hlk (by decide) h dX2_fits_91
        · have h := ifn h g
          refine lv_aload_n E.1 E.2.1 dX2_fits_75 rfl (lv_at hl 0 rfl) ?_
          refine gf_X2_25 E hW g10 dX2_fits_76 ?_
          refine lv_ldc2 (v := (100000000 : Int64)) E.1 E.2.1 E.2.2.2.1 (E.wd kw_531) dX2_fits_79 ?_
          refine r_lc_gt E dX2_fits_82 dX2_fits_83 (tgt := 90) (by decide) (fun g => ?_) (fun g => ?_)
          · have h := ifp h g
            refine lv_iconst (v := (0 : Int32)) E.1 E.2.1 dX2_fits_90 (by decide) ?_
            exact e_z E hW hr hlk (by decide) h dX2_fits_91
          · have h := ifn h g
            refine lv_iconst (v := (1 : Int32)) E.1 E.2.1 dX2_fits_86 (by decide) ?_
            refine lv_goto (tgt := 91) E.1 E.2.1 dX2_fits_87 (by decide) ?_
            exact e_z E hW hr hlk (by decide) h dX2_fits_91
set_option maxHeartbeats 4000000 in
set_option maxRecDepth 100000 in
theorem L_X0_addModels_3 {p : Program} {l : Launch} {e : Env} {s : State} {m : MethodId} {args : Array Value} {below : List Frame} {meth : Method} {c : Code} {G : GP} {A0 : Nat → Prop} {σ0 : St} {r0 : Int32} {K38 : Nat → Nat → Nat → St → Option (Int32 × St)} (E : En p m c s cX0_addModels 5 yX0_addModels.cls G A0) (hr : meth.sig.returnType = (some .boolean)) (hlk : meth.locks = false) (hK38 : ∀ (q7 : Nat) (q8 : Nat) (q9 : Nat) (σ6 : St) (H : Heap) (locs : List Loc) (ls : Array Slot), K38 q7 q8 q9 σ6 = some (r0, σ0) → Wo G skC A0 s σ6 H locs → lv_has ls 5 [(1, .ref (G.2.2.2 + q7)), (2, .ref (G.2.2.2 + q8)), (3, .ref (G.2.2.2 + q9))] → W p l e ({ frames := 1, cells := 0, slots := 0, locals := 21 } : Room) s m args below meth c H locs 0 0 (MQ below (QO (PoC G skC σ0) A0 (some (.int r0))) args s 0 0 A0) (F0 m 38 ls [])) : ∀ (n10 : Nat) (q2 : Nat) (q3 : Nat) (q4 : Nat) (x5 : Int32) (σ1 : St) (H : Heap) (locs : List Loc) (ls : Array Slot), f_X0_addModels_L3 K38 n10 q2 q3 q4 x5 σ1 = some (r0, σ0) → Wo G skC A0 s σ1 H locs → lv_has ls 5 [(1, .ref (G.2.2.2 + q2)), (2, .ref (G.2.2.2 + q3)), (3, .ref (G.2.2.2 + q4)), (4, .int x5)] → W p l e ({ frames := 1, cells := 0, slots := 0, locals := 21 } : Room) s m args below meth c H locs 0 0 (MQ below (QO (PoC G skC σ0) A0 (some (.int r0))) args s 0 0 A0) (F0 m 3 ls []) := by
  intro n10
  induction n10 with
  | zero =>
    intro q2 q3 q4 x5 σ1 H locs ls h hW hl
    rw [f_X0_addModels_L3] at h
    cases h
  | succ n10 ih =>
    intro q2 q3 q4 x5 σ1 H locs ls h hW hl
    rw [f_X0_addModels_L3] at h
    refine lv_iload E.1 E.2.1 dX0_addModels_3 (lv_at hl 3 rfl) ?_
    refine lv_bipush (v := (10 : Int32)) E.1 E.2.1 dX0_addModels_5 (by decide) ?_
    refine lv_icmp_ge (tgt := 38) E.1 E.2.1 dX0_addModels_7 (by decide) (fun g => ?_) (fun g => ?_)
    · have h := ifp h g
      exact hK38 _ _ _ _ _ _ _ h hW (lv_sub hl [0, 1, 2] rfl)
    · have h := ifn h g
      refine lv_aload_n E.1 E.2.1 dX0_addModels_10 rfl (lv_at hl 0 rfl) ?_
      obtain ⟨g11, h⟩ := gd_r h
      refine gf_X0_34 E hW g11 dX0_addModels_11 ?_
      refine lv_iload E.1 E.2.1 dX0_addModels_14 (lv_at hl 3 rfl) ?_
      refine lv_aload_n E.1 E.2.1 dX0_addModels_16 rfl (lv_at hl 1 rfl) ?_
      obtain ⟨g12, h⟩ := gd_r h
      refine gf_X0_34 E hW g12 dX0_addModels_17 ?_
      refine lv_iload E.1 E.2.1 dX0_addModels_20 (lv_at hl 3 rfl) ?_
      obtain ⟨g13, h⟩ := gd_r h
      refine r_lald E hW (pr_eq g13.1) g13.2 dX0_addModels_22 ?_
      refine lv_aload_n E.1 E.2.1 dX0_addModels_23 rfl (lv_at hl 2 rfl) ?_
      obtain ⟨g14, h⟩ := gd_r h
      refine gf_X0_34 E hW g14 dX0_addModels_24 ?_
      refine lv_iload E.1 E.2.1 dX0_addModels_27 (lv_at hl 3 rfl) ?_
      obtain ⟨g15, h⟩ := gd_r h
      refine r_lald E hW (pr_eq g15.1) g15.2 dX0_addModels_29 ?_
      refine lv_ladd E.1 E.2.1 dX0_addModels_30 ?_
      obtain ⟨g16, h⟩ := gd_r h
      refine r_last E hW (pr_eq g16.1) g16.2 dX0_addModels_31 (fun σ17 H locs eσ17 hW => ?_)
      have h := bnd_r eσ17 h
      obtain ⟨x18, ex18⟩ : ∃ y : Int32, y = x5 + (1 : Int32) := ⟨_, rfl⟩
      have h := bnd_r ex18 h
      refine lv_iinc (v := x18) (lv' := [(4, .int x18), (1, .ref (G.2.2.2 + q2)), (2, .ref (G.2.2.2 + q3)), (3, .ref (G.2.2.2 + q4))]) E.1 E.2.1 dX0_addModels_32 hl (k := 3) rfl (by rw [ex18]; rfl) (by decide) rfl (fun ls hl => ?_)
      refine lv_goto (tgt := 3) E.1 E.2.1 dX0_addModels_35 (by decide) ?_
      exact ih _ _ _ _ _ _ _ _ h hW (lv_sub hl [1, 2, 3, 0] rfl)
set_option maxHeartbeats 4000000 in
set_option maxRecDepth 100000 in
theorem m_X0_addModels {l : Launch} {G : GP} {sz : Nat} {q0 : Nat} {q1 : Nat} {q2 : Nat} {q3 : Nat} {σ σ0 : St} {r0 : Int32} (h : f_X0_addModels q0 q1 q2 q3 σ = some (r0, σ0)) : Met l yX0_addModels [.code yX0_addModels cX0_addModels 5 (some .boolean)] ({ frames := 1, cells := 0, slots := 0, locals := 21 } : Room) (va_Pc [.ref (G.2.2.2 + q0), .ref (G.2.2.2 + q1), .ref (G.2.2.2 + q2), .ref (G.2.2.2 + q3)] (PreC G skC sz σ)) (QO (PoC G skC σ0) (Aw G.2.2.2 skC.1 sz) (some (.int r0))) 0 0 (Aw G.2.2.2 skC.1 sz) := by
  refine mkMet (by decide +kernel) (Nat.le_of_ble_eq_true rfl) skC_ok ?_
  intro p e s m below meth c ls E hW hl hr hlk
  have hl : lv_has ls 5 [(0, .ref (G.2.2.2 + q0)), (1, .ref (G.2.2.2 + q1)), (2, .ref (G.2.2.2 + q2)), (3, .ref (G.2.2.2 + q3))] := hl
  generalize Aw G.2.2.2 skC.1 s.heap.size = A0 at E hW ⊢
  generalize ([.ref (G.2.2.2 + q0), .ref (G.2.2.2 + q1), .ref (G.2.2.2 + q2), .ref (G.2.2.2 + q3)] : List Value).toArray = args
  unfold f_X0_addModels at h
  refine lv_iconst (v := (0 : Int32)) E.1 E.2.1 dX0_addModels_0 (by decide) ?_
  refine lv_istore (lv' := [(4, .int (0 : Int32)), (0, .ref (G.2.2.2 + q0)), (1, .ref (G.2.2.2 + q1)), (2, .ref (G.2.2.2 + q2)), (3, .ref (G.2.2.2 + q3))]) E.1 E.2.1 dX0_addModels_1 hl (by decide) rfl (fun ls hl => ?_)
  refine L_X0_addModels_3 E hr hlk ?_ _ _ _ _ _ _ _ _ _ h hW (lv_sub hl [2, 3, 4, 0] rfl)
  · intro q7 q8 q9 σ6 H locs ls h hW hl
    refine lv_aload_n E.1 E.2.1 dX0_addModels_38 rfl (lv_at hl 0 rfl) ?_
    refine lv_aload_n E.1 E.2.1 dX0_addModels_39 rfl (lv_at hl 1 rfl) ?_
    obtain ⟨g19, h⟩ := gd_r h
    refine gf_X0_37 E hW g19 dX0_addModels_40 ?_
    refine lv_aload_n E.1 E.2.1 dX0_addModels_43 rfl (lv_at hl 2 rfl) ?_
    obtain ⟨g20, h⟩ := gd_r h
    refine gf_X0_37 E hW g20 dX0_addModels_44 ?_
    refine lv_ladd E.1 E.2.1 dX0_addModels_47 ?_
    obtain ⟨g21, h⟩ := gd_r h
    refine pf_X0_37 E hW g21 dX0_addModels_48 (fun σ22 H locs eσ22 hW => ?_)
    have h := bnd_r eσ22 h
    refine lv_aload_n E.1 E.2.1 dX0_addModels_51 rfl (lv_at hl 0 rfl) ?_
    refine lv_aload_n E.1 E.2.1 dX0_addModels_52 rfl (lv_at hl 1 rfl) ?_
    refine gf_X0_41 E hW g19 dX0_addModels_53 ?_
    refine lv_aload_n E.1 E.2.1 dX0_addModels_56 rfl (lv_at hl 2 rfl) ?_
    refine gf_X0_41 E hW g20 dX0_addModels_57 ?_
    refine lv_ladd E.1 E.2.1 dX0_addModels_60 ?_
    refine pf_X0_41 E hW g21 dX0_addModels_61 (fun σ23 H locs eσ23 hW => ?_)
    have h := bnd_r eσ23 h
    refine lv_aload_n E.1 E.2.1 dX0_addModels_64 rfl (lv_at hl 0 rfl) ?_
    obtain ⟨x25, σ24, c26, h⟩ := obn_r h
    refine c_V (As := []) (rest := []) E hW (m_X2_fits c26) g21 rfl kw_526 wv_X2_fits yo_X2_fits ⟨rfl, rfl⟩ ⟨(Nat.le_of_ble_eq_true rfl), (Nat.le_of_ble_eq_true rfl)⟩ (lv_size hl) (Nat.le_of_ble_eq_true rfl) ⟨(Nat.le_of_ble_eq_true rfl), (Nat.le_of_ble_eq_true rfl)⟩ rfl dX0_addModels_65 (fun H locs hW => ?_)
    refine W.eq (g2 := F0 m 68 ls [.int x25]) rfl ?_
    obtain ⟨g27, h⟩ := gd_r h
    exact e_z E hW hr hlk g27 h dX0_addModels_68
set_option maxHeartbeats 4000000 in
set_option maxRecDepth 100000 in
theorem L_X0_subtractModels_3 {p : Program} {l : Launch} {e : Env} {s : State} {m : MethodId} {args : Array Value} {below : List Frame} {meth : Method} {c : Code} {G : GP} {A0 : Nat → Prop} {σ0 : St} {r0 : Int32} {K38 : Nat → Nat → Nat → St → Option (Int32 × St)} (E : En p m c s cX0_subtractModels 8 yX0_subtractModels.cls G A0) (hr : meth.sig.returnType = (some .boolean)) (hlk : meth.locks = false) (hK38 : ∀ (q7 : Nat) (q8 : Nat) (q9 : Nat) (σ6 : St) (H : Heap) (locs : List Loc) (ls : Array Slot), K38 q7 q8 q9 σ6 = some (r0, σ0) → Wo G skC A0 s σ6 H locs → lv_has ls 8 [(1, .ref (G.2.2.2 + q7)), (2, .ref (G.2.2.2 + q8)), (3, .ref (G.2.2.2 + q9))] → W p l e ({ frames := 1, cells := 0, slots := 0, locals := 21 } : Room) s m args below meth c H locs 0 0 (MQ below (QO (PoC G skC σ0) A0 (some (.int r0))) args s 0 0 A0) (F0 m 38 ls [])) : ∀ (n10 : Nat) (q2 : Nat) (q3 : Nat) (q4 : Nat) (x5 : Int32) (σ1 : St) (H : Heap) (locs : List Loc) (ls : Array Slot), f_X0_subtractModels_L3 K38 n10 q2 q3 q4 x5 σ1 = some (r0, σ0) → Wo G skC A0 s σ1 H locs → lv_has ls 8 [(1, .ref (G.2.2.2 + q2)), (2, .ref (G.2.2.2 + q3)), (3, .ref (G.2.2.2 + q4)), (4, .int x5)] → W p l e ({ frames := 1, cells := 0, slots := 0, locals := 21 } : Room) s m args below meth c H locs 0 0 (MQ below (QO (PoC G skC σ0) A0 (some (.int r0))) args s 0 0 A0) (F0 m 3 ls []) := by
  intro n10
  induction n10 with
  | zero =>
    intro q2 q3 q4 x5 σ1 H locs ls h hW hl
    rw [f_X0_subtractModels_L3] at h
    cases h
  | succ n10 ih =>
    intro q2 q3 q4 x5 σ1 H locs ls h hW hl
    rw [f_X0_subtractModels_L3] at h
    refine lv_iload E.1 E.2.1 dX0_subtractModels_3 (lv_at hl 3 rfl) ?_
    refine lv_bipush (v := (10 : Int32)) E.1 E.2.1 dX0_subtractModels_5 (by decide) ?_
    refine lv_icmp_ge (tgt := 38) E.1 E.2.1 dX0_subtractModels_7 (by decide) (fun g => ?_) (fun g => ?_)
    · have h := ifp h g
      exact hK38 _ _ _ _ _ _ _ h hW (lv_sub hl [0, 1, 2] rfl)
    · have h := ifn h g
      refine lv_aload_n E.1 E.2.1 dX0_subtractModels_10 rfl (lv_at hl 0 rfl) ?_
      obtain ⟨g11, h⟩ := gd_r h
      refine gf_X0_34 E hW g11 dX0_subtractModels_11 ?_
      refine lv_iload E.1 E.2.1 dX0_subtractModels_14 (lv_at hl 3 rfl) ?_
      refine lv_aload_n E.1 E.2.1 dX0_subtractModels_16 rfl (lv_at hl 1 rfl) ?_
      obtain ⟨g12, h⟩ := gd_r h
      refine gf_X0_34 E hW g12 dX0_subtractModels_17 ?_
      refine lv_iload E.1 E.2.1 dX0_subtractModels_20 (lv_at hl 3 rfl) ?_
      obtain ⟨g13, h⟩ := gd_r h
      refine r_lald E hW (pr_eq g13.1) g13.2 dX0_subtractModels_22 ?_
      refine lv_aload_n E.1 E.2.1 dX0_subtractModels_23 rfl (lv_at hl 2 rfl) ?_
      obtain ⟨g14, h⟩ := gd_r h
      refine gf_X0_34 E hW g14 dX0_subtractModels_24 ?_
      refine lv_iload E.1 E.2.1 dX0_subtractModels_27 (lv_at hl 3 rfl) ?_
      obtain ⟨g15, h⟩ := gd_r h
      refine r_lald E hW (pr_eq g15.1) g15.2 dX0_subtractModels_29 ?_
      refine lv_lsub E.1 E.2.1 dX0_subtractModels_30 ?_
      obtain ⟨g16, h⟩ := gd_r h
      refine r_last E hW (pr_eq g16.1) g16.2 dX0_subtractModels_31 (fun σ17 H locs eσ17 hW => ?_)
      have h := bnd_r eσ17 h
      obtain ⟨x18, ex18⟩ : ∃ y : Int32, y = x5 + (1 : Int32) := ⟨_, rfl⟩
      have h := bnd_r ex18 h
      refine lv_iinc (v := x18) (lv' := [(4, .int x18), (1, .ref (G.2.2.2 + q2)), (2, .ref (G.2.2.2 + q3)), (3, .ref (G.2.2.2 + q4))]) E.1 E.2.1 dX0_subtractModels_32 hl (k := 3) rfl (by rw [ex18]; rfl) (by decide) rfl (fun ls hl => ?_)
      refine lv_goto (tgt := 3) E.1 E.2.1 dX0_subtractModels_35 (by decide) ?_
      exact ih _ _ _ _ _ _ _ _ h hW (lv_sub hl [1, 2, 3, 0] rfl)
set_option maxHeartbeats 4000000 in
set_option maxRecDepth 100000 in
theorem m_X0_subtractModels {l : Launch} {G : GP} {sz : Nat} {q0 : Nat} {q1 : Nat} {q2 : Nat} {q3 : Nat} {σ σ0 : St} {r0 : Int32} (h : f_X0_subtractModels q0 q1 q2 q3 σ = some (r0, σ0)) : Met l yX0_subtractModels [.code yX0_subtractModels cX0_subtractModels 8 (some .boolean)] ({ frames := 1, cells := 0, slots := 0, locals := 21 } : Room) (va_Pc [.ref (G.2.2.2 + q0), .ref (G.2.2.2 + q1), .ref (G.2.2.2 + q2), .ref (G.2.2.2 + q3)] (PreC G skC sz σ)) (QO (PoC G skC σ0) (Aw G.2.2.2 skC.1 sz) (some (.int r0))) 0 0 (Aw G.2.2.2 skC.1 sz) := by
  refine mkMet (by decide +kernel) (Nat.le_of_ble_eq_true rfl) skC_ok ?_
  intro p e s m below meth c ls E hW hl hr hlk
  have hl : lv_has ls 8 [(0, .ref (G.2.2.2 + q0)), (1, .ref (G.2.2.2 + q1)), (2, .ref (G.2.2.2 + q2)), (3, .ref (G.2.2.2 + q3))] := hl
  generalize Aw G.2.2.2 skC.1 s.heap.size = A0 at E hW ⊢
  generalize ([.ref (G.2.2.2 + q0), .ref (G.2.2.2 + q1), .ref (G.2.2.2 + q2), .ref (G.2.2.2 + q3)] : List Value).toArray = args
  unfold f_X0_subtractModels at h
  refine lv_iconst (v := (0 : Int32)) E.1 E.2.1 dX0_subtractModels_0 (by decide) ?_
  refine lv_istore (lv' := [(4, .int (0 : Int32)), (0, .ref (G.2.2.2 + q0)), (1, .ref (G.2.2.2 + q1)), (2, .ref (G.2.2.2 + q2)), (3, .ref (G.2.2.2 + q3))]) E.1 E.2.1 dX0_subtractModels_1 hl (by decide) rfl (fun ls hl => ?_)
  refine L_X0_subtractModels_3 E hr hlk ?_ _ _ _ _ _ _ _ _ _ h hW (lv_sub hl [2, 3, 4, 0] rfl)
  · intro q7 q8 q9 σ6 H locs ls h hW hl
    refine lv_aload_n E.1 E.2.1 dX0_subtractModels_38 rfl (lv_at hl 1 rfl) ?_
    obtain ⟨g19, h⟩ := gd_r h
    refine gf_X0_37 E hW g19 dX0_subtractModels_39 ?_
    refine lv_aload_n E.1 E.2.1 dX0_subtractModels_42 rfl (lv_at hl 2 rfl) ?_
    obtain ⟨g20, h⟩ := gd_r h
    refine gf_X0_41 E hW g20 dX0_subtractModels_43 ?_
    refine lv_lsub E.1 E.2.1 dX0_subtractModels_46 ?_
    refine lv_topl (fun x21 ex21 => ?_)
    have h := bnd_r ex21 h
    refine lv_lstore (lv' := [(4, .long x21), (1, .ref (G.2.2.2 + q7)), (2, .ref (G.2.2.2 + q8)), (3, .ref (G.2.2.2 + q9))]) E.1 E.2.1 dX0_subtractModels_47 hl (by decide) rfl (fun ls hl => ?_)
    refine lv_aload_n E.1 E.2.1 dX0_subtractModels_49 rfl (lv_at hl 2 rfl) ?_
    refine gf_X0_41 E hW g19 dX0_subtractModels_50 ?_
    refine lv_aload_n E.1 E.2.1 dX0_subtractModels_53 rfl (lv_at hl 3 rfl) ?_
    refine gf_X0_37 E hW g20 dX0_subtractModels_54 ?_
    refine lv_lsub E.1 E.2.1 dX0_subtractModels_57 ?_
    refine lv_topl (fun x22 ex22 => ?_)
    have h := bnd_r ex22 h
    refine lv_lstore (lv' := [(6, .long x22), (4, .long x21), (1, .ref (G.2.2.2 + q7)), (2, .ref (G.2.2.2 + q8)), (3, .ref (G.2.2.2 + q9))]) E.1 E.2.1 dX0_subtractModels_58 hl (by decide) rfl (fun ls hl => ?_)
    refine lv_aload_n E.1 E.2.1 dX0_subtractModels_60 rfl (lv_at hl 2 rfl) ?_
    refine lv_lload E.1 E.2.1 dX0_subtractModels_61 (lv_at hl 1 rfl) ?_
    obtain ⟨g23, h⟩ := gd_r h
    refine pf_X0_37 E hW g23 dX0_subtractModels_63 (fun σ24 H locs eσ24 hW => ?_)
    have h := bnd_r eσ24 h
    refine lv_aload_n E.1 E.2.1 dX0_subtractModels_66 rfl (lv_at hl 2 rfl) ?_
    refine lv_lload E.1 E.2.1 dX0_subtractModels_67 (lv_at hl 0 rfl) ?_
    refine pf_X0_41 E hW g23 dX0_subtractModels_69 (fun σ25 H locs eσ25 hW => ?_)
    have h := bnd_r eσ25 h
    refine lv_aload_n E.1 E.2.1 dX0_subtractModels_72 rfl (lv_at hl 2 rfl) ?_
    obtain ⟨x27, σ26, c28, h⟩ := obn_r h
    refine c_V (As := []) (rest := []) E hW (m_X2_fits c28) g23 rfl kw_526 wv_X2_fits yo_X2_fits ⟨rfl, rfl⟩ ⟨(Nat.le_of_ble_eq_true rfl), (Nat.le_of_ble_eq_true rfl)⟩ (lv_size hl) (Nat.le_of_ble_eq_true rfl) ⟨(Nat.le_of_ble_eq_true rfl), (Nat.le_of_ble_eq_true rfl)⟩ rfl dX0_subtractModels_73 (fun H locs hW => ?_)
    refine W.eq (g2 := F0 m 76 ls [.int x27]) rfl ?_
    obtain ⟨g29, h⟩ := gd_r h
    exact e_z E hW hr hlk g29 h dX0_subtractModels_76
set_option maxHeartbeats 4000000 in
set_option maxRecDepth 100000 in
theorem L_X0_collectProducts_19 {p : Program} {l : Launch} {e : Env} {s : State} {m : MethodId} {args : Array Value} {below : List Frame} {meth : Method} {c : Code} {G : GP} {A0 : Nat → Prop} {σ0 : St} {r0 : Unit} {K97 : Nat → Nat → Nat → Int32 → St → Option (Unit × St)} (E : En p m c s cX0_collectProducts 6 yX0_collectProducts.cls G A0) (hr : meth.sig.returnType = none) (hlk : meth.locks = false) (hK97 : ∀ (q17 : Nat) (q18 : Nat) (q19 : Nat) (x20 : Int32) (σ16 : St) (H : Heap) (locs : List Loc) (ls : Array Slot), K97 q17 q18 q19 x20 σ16 = some (r0, σ0) → Wo G skC A0 s σ16 H locs → lv_has ls 6 [(0, .ref (G.2.2.2 + q17)), (1, .ref (G.2.2.2 + q18)), (2, .ref (G.2.2.2 + q19)), (3, .int x20)] → W p l e ({ frames := 1, cells := 0, slots := 0, locals := 24 } : Room) s m args below meth c H locs 0 0 (MQ below (QO (PoC G skC σ0) A0 none) args s 0 0 A0) (F0 m 97 ls [])) : ∀ (n21 : Nat) (q11 : Nat) (q12 : Nat) (q13 : Nat) (x14 : Int32) (x15 : Int32) (σ10 : St) (H : Heap) (locs : List Loc) (ls : Array Slot), f_X0_collectProducts_L19 K97 n21 q11 q12 q13 x14 x15 σ10 = some (r0, σ0) → Wo G skC A0 s σ10 H locs → lv_has ls 6 [(0, .ref (G.2.2.2 + q11)), (1, .ref (G.2.2.2 + q12)), (2, .ref (G.2.2.2 + q13)), (3, .int x14), (4, .int x15)] → W p l e ({ frames := 1, cells := 0, slots := 0, locals := 24 } : Room) s m args below meth c H locs 0 0 (MQ below (QO (PoC G skC σ0) A0 none) args s 0 0 A0) (F0 m 19 ls []) := by
  intro n21
  induction n21 with
  | zero =>
    intro q11 q12 q13 x14 x15 σ10 H locs ls h hW hl
    rw [f_X0_collectProducts_L19] at h
    cases h
  | succ n21 ih =>
    intro q11 q12 q13 x14 x15 σ10 H locs ls h hW hl
    rw [f_X0_collectProducts_L19] at h
    refine lv_aload_n E.1 E.2.1 dX0_collectProducts_19 rfl (lv_at hl 1 rfl) ?_
    obtain ⟨g22, h⟩ := gd_r h
    refine gf_X0_34 E hW g22 dX0_collectProducts_20 ?_
    refine lv_iload_n E.1 E.2.1 dX0_collectProducts_23 rfl (lv_at hl 3 rfl) ?_
    obtain ⟨g23, h⟩ := gd_r h
    refine r_lald E hW (pr_eq g23.1) g23.2 dX0_collectProducts_24 ?_
    refine lv_lconst (v := (0 : Int64)) E.1 E.2.1 dX0_collectProducts_25 (by decide) ?_
    refine r_lc_eq E dX0_collectProducts_26 dX0_collectProducts_27 (tgt := 97) (by decide) (fun g => ?_) (fun g => ?_)
    · have h := ifp h g
      exact hK97 _ _ _ _ _ _ _ _ h hW (lv_sub hl [0, 1, 2, 3] rfl)
    · have h := ifn h g
      refine lv_iload E.1 E.2.1 dX0_collectProducts_30 (lv_at hl 4 rfl) ?_
      refine lv_bipush (v := (10 : Int32)) E.1 E.2.1 dX0_collectProducts_32 (by decide) ?_
      refine lv_icmp_ge (tgt := 97) E.1 E.2.1 dX0_collectProducts_34 (by decide) (fun g => ?_) (fun g => ?_)
      · have h := ifp h g
        exact hK97 _ _ _ _ _ _ _ _ h hW (lv_sub hl [0, 1, 2, 3] rfl)
      · have h := ifn h g
        refine r_getsN E hW 0 (by decide) rfl kw_486 dX0_collectProducts_37 (fun t24 Tt24 => ?_)
        refine lv_iload_n E.1 E.2.1 dX0_collectProducts_40 rfl (lv_at hl 3 rfl) ?_
        obtain ⟨g25, h⟩ := gd_r h
        refine r_tald E hW 0 Tt24 g25 dX0_collectProducts_41 ?_
        refine r_getsN E hW 0 (by decide) rfl kw_486 dX0_collectProducts_42 (fun t26 Tt26 => ?_)
        refine lv_iload E.1 E.2.1 dX0_collectProducts_45 (lv_at hl 4 rfl) ?_
        obtain ⟨g27, h⟩ := gd_r h
        refine r_tald E hW 0 Tt26 g27 dX0_collectProducts_47 ?_
        refine lv_iadd E.1 E.2.1 dX0_collectProducts_48 ?_
        refine lv_bipush (v := (7 : Int32)) E.1 E.2.1 dX0_collectProducts_49 (by decide) ?_
        refine lv_imul E.1 E.2.1 dX0_collectProducts_51 ?_
        refine r_getsN E hW 1 (by decide) rfl kw_488 dX0_collectProducts_52 (fun t28 Tt28 => ?_)
        refine lv_iload_n E.1 E.2.1 dX0_collectProducts_55 rfl (lv_at hl 3 rfl) ?_
        obtain ⟨g29, h⟩ := gd_r h
        refine r_tald E hW 1 Tt28 g29 dX0_collectProducts_56 ?_
        refine lv_iadd E.1 E.2.1 dX0_collectProducts_57 ?_
        refine r_getsN E hW 1 (by decide) rfl kw_488 dX0_collectProducts_58 (fun t30 Tt30 => ?_)
        refine lv_iload E.1 E.2.1 dX0_collectProducts_61 (lv_at hl 4 rfl) ?_
        obtain ⟨g31, h⟩ := gd_r h
        refine r_tald E hW 1 Tt30 g31 dX0_collectProducts_63 ?_
        refine lv_iadd E.1 E.2.1 dX0_collectProducts_64 ?_
        refine lv_topi (fun x32 ex32 => ?_)
        have h := bnd_r ex32 h
        refine lv_istore (lv' := [(5, .int x32), (0, .ref (G.2.2.2 + q11)), (1, .ref (G.2.2.2 + q12)), (2, .ref (G.2.2.2 + q13)), (3, .int x14), (4, .int x15)]) E.1 E.2.1 dX0_collectProducts_65 hl (by decide) rfl (fun ls hl => ?_)
        refine lv_aload_n E.1 E.2.1 dX0_collectProducts_67 rfl (lv_at hl 1 rfl) ?_
        obtain ⟨g33, h⟩ := gd_r h
        refine gf_X0_11 E hW g33 dX0_collectProducts_68 ?_
        refine lv_iload E.1 E.2.1 dX0_collectProducts_71 (lv_at hl 0 rfl) ?_
        refine lv_dup2_11 E.1 E.2.1 dX0_collectProducts_73 rfl rfl ?_
        obtain ⟨g34, h⟩ := gd_r h
        refine r_lald E hW (pr_eq g34.1) g34.2 dX0_collectProducts_74 ?_
        refine lv_aload_n E.1 E.2.1 dX0_collectProducts_75 rfl (lv_at hl 2 rfl) ?_
        refine gf_X0_34 E hW g22 dX0_collectProducts_76 ?_
        refine lv_iload_n E.1 E.2.1 dX0_collectProducts_79 rfl (lv_at hl 4 rfl) ?_
        refine r_lald E hW (pr_eq g23.1) g23.2 dX0_collectProducts_80 ?_
        refine lv_aload_n E.1 E.2.1 dX0_collectProducts_81 rfl (lv_at hl 3 rfl) ?_
        obtain ⟨g35, h⟩ := gd_r h
        refine gf_X0_34 E hW g35 dX0_collectProducts_82 ?_
        refine lv_iload E.1 E.2.1 dX0_collectProducts_85 (lv_at hl 5 rfl) ?_
        obtain ⟨g36, h⟩ := gd_r h
        refine r_lald E hW (pr_eq g36.1) g36.2 dX0_collectProducts_87 ?_
        refine lv_lmul E.1 E.2.1 dX0_collectProducts_88 ?_
        refine lv_ladd E.1 E.2.1 dX0_collectProducts_89 ?_
        refine r_last E hW (pr_eq g34.1) g34.2 dX0_collectProducts_90 (fun σ37 H locs eσ37 hW => ?_)
        have h := bnd_r eσ37 h
        obtain ⟨x38, ex38⟩ : ∃ y : Int32, y = x15 + (1 : Int32) := ⟨_, rfl⟩
        have h := bnd_r ex38 h
        refine lv_iinc (v := x38) (lv' := [(4, .int x38), (5, .int x32), (0, .ref (G.2.2.2 + q11)), (1, .ref (G.2.2.2 + q12)), (2, .ref (G.2.2.2 + q13)), (3, .int x14)]) E.1 E.2.1 dX0_collectProducts_91 hl (k := 5) rfl (by rw [ex38]; rfl) (by decide) rfl (fun ls hl => ?_)
        refine lv_goto (tgt := 19) E.1 E.2.1 dX0_collectProducts_94 (by decide) ?_
        exact ih _ _ _ _ _ _ _ _ _ h hW (lv_sub hl [2, 3, 4, 5, 0] rfl)
set_option maxHeartbeats 4000000 in
set_option maxRecDepth 100000 in
theorem L_X0_collectProducts_10 {p : Program} {l : Launch} {e : Env} {s : State} {m : MethodId} {args : Array Value} {below : List Frame} {meth : Method} {c : Code} {G : GP} {A0 : Nat → Prop} {σ0 : St} {r0 : Unit} (E : En p m c s cX0_collectProducts 6 yX0_collectProducts.cls G A0) (hr : meth.sig.returnType = none) (hlk : meth.locks = false) : ∀ (n9 : Nat) (q5 : Nat) (q6 : Nat) (q7 : Nat) (x8 : Int32) (σ4 : St) (H : Heap) (locs : List Loc) (ls : Array Slot), f_X0_collectProducts_L10 n9 q5 q6 q7 x8 σ4 = some (r0, σ0) → Wo G skC A0 s σ4 H locs → lv_has ls 6 [(0, .ref (G.2.2.2 + q5)), (1, .ref (G.2.2.2 + q6)), (2, .ref (G.2.2.2 + q7)), (3, .int x8)] → W p l e ({ frames := 1, cells := 0, slots := 0, locals := 24 } : Room) s m args below meth c H locs 0 0 (MQ below (QO (PoC G skC σ0) A0 none) args s 0 0 A0) (F0 m 10 ls []) := by
  intro n9
  induction n9 with
  | zero =>
    intro q5 q6 q7 x8 σ4 H locs ls h hW hl
    rw [f_X0_collectProducts_L10] at h
    cases h
  | succ n9 ih =>
    intro q5 q6 q7 x8 σ4 H locs ls h hW hl
    rw [f_X0_collectProducts_L10] at h
    refine lv_iload_n E.1 E.2.1 dX0_collectProducts_10 rfl (lv_at hl 3 rfl) ?_
    refine lv_bipush (v := (10 : Int32)) E.1 E.2.1 dX0_collectProducts_11 (by decide) ?_
    refine lv_icmp_ge (tgt := 103) E.1 E.2.1 dX0_collectProducts_13 (by decide) (fun g => ?_) (fun g => ?_)
    · have h := ifp h g
      exact e_v E hW hr hlk h dX0_collectProducts_103
    · have h := ifn h g
      refine lv_iconst (v := (0 : Int32)) E.1 E.2.1 dX0_collectProducts_16 (by decide) ?_
      refine lv_istore (lv' := [(4, .int (0 : Int32)), (0, .ref (G.2.2.2 + q5)), (1, .ref (G.2.2.2 + q6)), (2, .ref (G.2.2.2 + q7)), (3, .int x8)]) E.1 E.2.1 dX0_collectProducts_17 hl (by decide) rfl (fun ls hl => ?_)
      refine L_X0_collectProducts_19 E hr hlk ?_ _ _ _ _ _ _ _ _ _ _ h hW (lv_sub hl [1, 2, 3, 4, 0] rfl)
      · intro q17 q18 q19 x20 σ16 H locs ls h hW hl
        obtain ⟨x39, ex39⟩ : ∃ y : Int32, y = x20 + (1 : Int32) := ⟨_, rfl⟩
        have h := bnd_r ex39 h
        refine lv_iinc (v := x39) (lv' := [(3, .int x39), (0, .ref (G.2.2.2 + q17)), (1, .ref (G.2.2.2 + q18)), (2, .ref (G.2.2.2 + q19))]) E.1 E.2.1 dX0_collectProducts_97 hl (k := 3) rfl (by rw [ex39]; rfl) (by decide) rfl (fun ls hl => ?_)
        refine lv_goto (tgt := 10) E.1 E.2.1 dX0_collectProducts_100 (by decide) ?_
        exact ih _ _ _ _ _ _ _ _ h hW (lv_sub hl [1, 2, 3, 0] rfl)
set_option maxHeartbeats 4000000 in
set_option maxRecDepth 100000 in
theorem m_X0_collectProducts {l : Launch} {G : GP} {sz : Nat} {q0 : Nat} {q1 : Nat} {q2 : Nat} {σ σ0 : St} {r0 : Unit} (h : f_X0_collectProducts q0 q1 q2 σ = some (r0, σ0)) : Met l yX0_collectProducts [.code yX0_collectProducts cX0_collectProducts 6 none] ({ frames := 1, cells := 0, slots := 0, locals := 24 } : Room) (va_Pc [.ref (G.2.2.2 + q0), .ref (G.2.2.2 + q1), .ref (G.2.2.2 + q2)] (PreC G skC sz σ)) (QO (PoC G skC σ0) (Aw G.2.2.2 skC.1 sz) none) 0 0 (Aw G.2.2.2 skC.1 sz) := by
  refine mkMet (by decide +kernel) (Nat.le_of_ble_eq_true rfl) skC_ok ?_
  intro p e s m below meth c ls E hW hl hr hlk
  have hl : lv_has ls 6 [(0, .ref (G.2.2.2 + q0)), (1, .ref (G.2.2.2 + q1)), (2, .ref (G.2.2.2 + q2))] := hl
  generalize Aw G.2.2.2 skC.1 s.heap.size = A0 at E hW ⊢
  generalize ([.ref (G.2.2.2 + q0), .ref (G.2.2.2 + q1), .ref (G.2.2.2 + q2)] : List Value).toArray = args
  unfold f_X0_collectProducts at h
  refine lv_aload_n E.1 E.2.1 dX0_collectProducts_0 rfl (lv_at hl 0 rfl) ?_
  obtain ⟨g1, h⟩ := gd_r h
  refine gf_X0_11 E hW g1 dX0_collectProducts_1 ?_
  refine lv_lconst (v := (0 : Int64)) E.1 E.2.1 dX0_collectProducts_4 (by decide) ?_
  obtain ⟨_r, σ2, c3, h⟩ := obn_r h
  refine c_S (As := [.ref (G.2.2.2 + (rC q0 0)), .long (0 : Int64)]) (rest := []) E hW (m_J7_fill_d0a16 c3) kw_584 ws_J7_fill_d0a16 yo_J7_fill_d0a16 ⟨rfl, rfl⟩ ⟨(Nat.le_of_ble_eq_true rfl), (Nat.le_of_ble_eq_true rfl)⟩ (lv_size hl) (Nat.le_of_ble_eq_true rfl) ⟨(Nat.le_of_ble_eq_true rfl), (Nat.le_of_ble_eq_true rfl)⟩ rfl dX0_collectProducts_5 (fun H locs hW => ?_)
  refine W.eq (g2 := F0 m 8 ls []) rfl ?_
  refine lv_iconst (v := (0 : Int32)) E.1 E.2.1 dX0_collectProducts_8 (by decide) ?_
  refine lv_istore_n (lv' := [(3, .int (0 : Int32)), (0, .ref (G.2.2.2 + q0)), (1, .ref (G.2.2.2 + q1)), (2, .ref (G.2.2.2 + q2))]) E.1 E.2.1 dX0_collectProducts_9 rfl hl (by decide) rfl (fun ls hl => ?_)
  refine L_X0_collectProducts_10 E hr hlk _ _ _ _ _ _ _ _ _ h hW (lv_sub hl [1, 2, 3, 0] rfl)
set_option maxHeartbeats 4000000 in
set_option maxRecDepth 100000 in
theorem m_X6_lowestOf {l : Launch} {G : GP} {sz : Nat} {a0 : Int32} {a1 : Int32} {σ σ0 : St} {r0 : Int32} (h : f_X6_lowestOf a0 a1 σ = some (r0, σ0)) : Met l yX6_lowestOf [.code yX6_lowestOf cX6_lowestOf 2 (some .int)] ({ frames := 0, cells := 0, slots := 0, locals := 0 } : Room) (va_Pc [.int a0, .int a1] (PreC G skC sz σ)) (QO (PoC G skC σ0) (Aw G.2.2.2 skC.1 sz) (some (.int r0))) 0 0 (Aw G.2.2.2 skC.1 sz) := by
  refine mkMet (by decide +kernel) (Nat.le_of_ble_eq_true rfl) skC_ok ?_
  intro p e s m below meth c ls E hW hl hr hlk
  have hl : lv_has ls 2 [(0, .int a0), (1, .int a1)] := hl
  generalize Aw G.2.2.2 skC.1 s.heap.size = A0 at E hW ⊢
  generalize ([.int a0, .int a1] : List Value).toArray = args
  unfold f_X6_lowestOf at h
  refine lv_iload_n E.1 E.2.1 dX6_lowestOf_0 rfl (lv_at hl 0 rfl) ?_
  obtain ⟨J4, eJ4, h⟩ := bnd_x h
  have hJ4 : ∀ (x2 : Int32) (x3 : Int32) (σ1 : St) (H : Heap) (locs : List Loc) (ls : Array Slot), J4 x2 x3 σ1 = some (r0, σ0) → Wo G skC A0 s σ1 H locs → lv_has ls 2 [(0, .int x2), (1, .int x3)] → W p l e ({ frames := 0, cells := 0, slots := 0, locals := 0 } : Room) s m args below meth c H locs 0 0 (MQ below (QO (PoC G skC σ0) A0 (some (.int r0))) args s 0 0 A0) (F0 m 10 ls []) := by
    intro x2 x3 σ1 H locs ls h hW hl
    have h := jr3 eJ4 h
    refine lv_iload_n E.1 E.2.1 dX6_lowestOf_10 rfl (lv_at hl 0 rfl) ?_
    refine lv_iconst (v := (1 : Int32)) E.1 E.2.1 dX6_lowestOf_11 (by decide) ?_
    refine lv_iand E.1 E.2.1 dX6_lowestOf_12 ?_
    refine lv_if_ne (tgt := 26) E.1 E.2.1 dX6_lowestOf_13 (by decide) (fun g => ?_) (fun g => ?_)
    · have h := ifn h g
      refine lv_iconst (v := (-1 : Int32)) E.1 E.2.1 dX6_lowestOf_26 (by decide) ?_
      exact e_i E hW hr hlk h dX6_lowestOf_27
    · have h := ifp h g
      refine lv_iload_n E.1 E.2.1 dX6_lowestOf_16 rfl (lv_at hl 1 rfl) ?_
      refine lv_iconst (v := (1 : Int32)) E.1 E.2.1 dX6_lowestOf_17 (by decide) ?_
      refine lv_iand E.1 E.2.1 dX6_lowestOf_18 ?_
      refine lv_if_ne (tgt := 26) E.1 E.2.1 dX6_lowestOf_19 (by decide) (fun g => ?_) (fun g => ?_)
      · have h := ifn h g
        refine lv_iconst (v := (-1 : Int32)) E.1 E.2.1 dX6_lowestOf_26 (by decide) ?_
        exact e_i E hW hr hlk h dX6_lowestOf_27
      · have h := ifp h g
        refine lv_iconst (v := (0 : Int32)) E.1 E.2.1 dX6_lowestOf_22 (by decide) ?_
        refine lv_goto (tgt := 27) E.1 E.2.1 dX6_lowestOf_23 (by decide) ?_
        exact e_i E hW hr hlk h dX6_lowestOf_27
  refine lv_if_ne (tgt := 10) E.1 E.2.1 dX6_lowestOf_1 (by decide) (fun g => ?_) (fun g => ?_)
  · have h := ifn h g
    exact hJ4 _ _ _ _ _ _ h hW (lv_sub hl [0, 1] rfl)
  · have h := ifp h g
    refine lv_iload_n E.1 E.2.1 dX6_lowestOf_4 rfl (lv_at hl 1 rfl) ?_
    refine lv_if_ne (tgt := 10) E.1 E.2.1 dX6_lowestOf_5 (by decide) (fun g => ?_) (fun g => ?_)
    · have h := ifn h g
      exact hJ4 _ _ _ _ _ _ h hW (lv_sub hl [0, 1] rfl)
    · have h := ifp h g
      refine lv_iconst (v := (1 : Int32)) E.1 E.2.1 dX6_lowestOf_8 (by decide) ?_
      exact e_i E hW hr hlk h dX6_lowestOf_9
set_option maxHeartbeats 4000000 in
set_option maxRecDepth 100000 in
theorem m_X6_rangeLow {l : Launch} {G : GP} {sz : Nat} {a0 : Int64} {a2 : Int32} {σ σ0 : St} {r0 : Int64} (h : f_X6_rangeLow a0 a2 σ = some (r0, σ0)) : Met l yX6_rangeLow [.code yX6_rangeLow cX6_rangeLow 3 (some .long)] ({ frames := 1, cells := 0, slots := 0, locals := 24 } : Room) (va_Pc [.long a0, .int a2] (PreC G skC sz σ)) (QO (PoC G skC σ0) (Aw G.2.2.2 skC.1 sz) (some (.long r0))) 0 0 (Aw G.2.2.2 skC.1 sz) := by
  refine mkMet (by decide +kernel) (Nat.le_of_ble_eq_true rfl) skC_ok ?_
  intro p e s m below meth c ls E hW hl hr hlk
  have hl : lv_has ls 3 [(0, .long a0), (2, .int a2)] := hl
  generalize Aw G.2.2.2 skC.1 s.heap.size = A0 at E hW ⊢
  generalize ([.long a0, .int a2] : List Value).toArray = args
  unfold f_X6_rangeLow at h
  refine lv_lload_n E.1 E.2.1 dX6_rangeLow_0 rfl (lv_at hl 0 rfl) ?_
  refine lv_iload_n E.1 E.2.1 dX6_rangeLow_1 rfl (lv_at hl 1 rfl) ?_
  refine lv_i2l E.1 E.2.1 dX6_rangeLow_2 rfl ?_
  refine lv_lmul E.1 E.2.1 dX6_rangeLow_3 ?_
  refine lv_lload_n E.1 E.2.1 dX6_rangeLow_4 rfl (lv_at hl 0 rfl) ?_
  refine r_minJ E (lv_size hl) ⟨kw_517, kw_518, kw_19, kw_519⟩ ⟨(Nat.le_of_ble_eq_true rfl), (Nat.le_of_ble_eq_true rfl)⟩ ⟨(Nat.le_of_ble_eq_true rfl), (Nat.le_of_ble_eq_true rfl)⟩ dX6_rangeLow_5 ?_
  exact e_j E hW hr hlk h dX6_rangeLow_8
set_option maxHeartbeats 4000000 in
set_option maxRecDepth 100000 in
theorem m_X6_rangeHigh {l : Launch} {G : GP} {sz : Nat} {a0 : Int64} {a2 : Int32} {σ σ0 : St} {r0 : Int64} (h : f_X6_rangeHigh a0 a2 σ = some (r0, σ0)) : Met l yX6_rangeHigh [.code yX6_rangeHigh cX6_rangeHigh 3 (some .long)] ({ frames := 1, cells := 0, slots := 0, locals := 24 } : Room) (va_Pc [.long a0, .int a2] (PreC G skC sz σ)) (QO (PoC G skC σ0) (Aw G.2.2.2 skC.1 sz) (some (.long r0))) 0 0 (Aw G.2.2.2 skC.1 sz) := by
  refine mkMet (by decide +kernel) (Nat.le_of_ble_eq_true rfl) skC_ok ?_
  intro p e s m below meth c ls E hW hl hr hlk
  have hl : lv_has ls 3 [(0, .long a0), (2, .int a2)] := hl
  generalize Aw G.2.2.2 skC.1 s.heap.size = A0 at E hW ⊢
  generalize ([.long a0, .int a2] : List Value).toArray = args
  unfold f_X6_rangeHigh at h
  refine lv_lload_n E.1 E.2.1 dX6_rangeHigh_0 rfl (lv_at hl 0 rfl) ?_
  refine lv_iload_n E.1 E.2.1 dX6_rangeHigh_1 rfl (lv_at hl 1 rfl) ?_
  refine lv_i2l E.1 E.2.1 dX6_rangeHigh_2 rfl ?_
  refine lv_lmul E.1 E.2.1 dX6_rangeHigh_3 ?_
  refine lv_lload_n E.1 E.2.1 dX6_rangeHigh_4 rfl (lv_at hl 0 rfl) ?_
  refine r_maxJ E (lv_size hl) ⟨kw_524, kw_480, kw_19, kw_481⟩ ⟨(Nat.le_of_ble_eq_true rfl), (Nat.le_of_ble_eq_true rfl)⟩ ⟨(Nat.le_of_ble_eq_true rfl), (Nat.le_of_ble_eq_true rfl)⟩ dX6_rangeHigh_5 ?_
  exact e_j E hW hr hlk h dX6_rangeHigh_8
set_option maxHeartbeats 4000000 in
set_option maxRecDepth 100000 in
theorem L_X2_spreadLow_4 {p : Program} {l : Launch} {e : Env} {s : State} {m : MethodId} {args : Array Value} {below : List Frame} {meth : Method} {c : Code} {G : GP} {A0 : Nat → Prop} {σ0 : St} {r0 : Int64} (E : En p m c s cX2_spreadLow 4 yX2_spreadLow.cls G A0) (hr : meth.sig.returnType = (some .long)) (hlk : meth.locks = false) : ∀ (n5 : Nat) (q2 : Nat) (x3 : Int64) (x4 : Int32) (σ1 : St) (H : Heap) (locs : List Loc) (ls : Array Slot), f_X2_spreadLow_L4 n5 q2 x3 x4 σ1 = some (r0, σ0) → Wo G skC A0 s σ1 H locs → lv_has ls 4 [(0, .ref (G.2.2.2 + q2)), (1, .long x3), (3, .int x4)] → W p l e ({ frames := 1, cells := 0, slots := 0, locals := 24 } : Room) s m args below meth c H locs 0 0 (MQ below (QO (PoC G skC σ0) A0 (some (.long r0))) args s 0 0 A0) (F0 m 4 ls []) := by
  intro n5
  induction n5 with
  | zero =>
    intro q2 x3 x4 σ1 H locs ls h hW hl
    rw [f_X2_spreadLow_L4] at h
    cases h
  | succ n5 ih =>
    intro q2 x3 x4 σ1 H locs ls h hW hl
    rw [f_X2_spreadLow_L4] at h
    refine lv_iload_n E.1 E.2.1 dX2_spreadLow_4 rfl (lv_at hl 2 rfl) ?_
    refine lv_bipush (v := (10 : Int32)) E.1 E.2.1 dX2_spreadLow_5 (by decide) ?_
    refine lv_icmp_ge (tgt := 41) E.1 E.2.1 dX2_spreadLow_7 (by decide) (fun g => ?_) (fun g => ?_)
    · have h := ifp h g
      refine lv_lload_n E.1 E.2.1 dX2_spreadLow_41 rfl (lv_at hl 1 rfl) ?_
      exact e_j E hW hr hlk h dX2_spreadLow_42
    · have h := ifn h g
      refine lv_lload_n E.1 E.2.1 dX2_spreadLow_10 rfl (lv_at hl 1 rfl) ?_
      refine lv_aload_n E.1 E.2.1 dX2_spreadLow_11 rfl (lv_at hl 0 rfl) ?_
      obtain ⟨g6, h⟩ := gd_r h
      refine gf_X2_9 E hW g6 dX2_spreadLow_12 ?_
      refine lv_iload_n E.1 E.2.1 dX2_spreadLow_15 rfl (lv_at hl 2 rfl) ?_
      obtain ⟨g7, h⟩ := gd_r h
      refine r_lald E hW (pr_eq g7.1) g7.2 dX2_spreadLow_16 ?_
      refine r_getsN E hW 3 (by decide) rfl kw_506 dX2_spreadLow_17 (fun t8 Tt8 => ?_)
      refine lv_iload_n E.1 E.2.1 dX2_spreadLow_20 rfl (lv_at hl 2 rfl) ?_
      obtain ⟨g9, h⟩ := gd_r h
      refine r_tald E hW 3 Tt8 g9 dX2_spreadLow_21 ?_
      refine lv_i2l E.1 E.2.1 dX2_spreadLow_22 rfl ?_
      refine lv_lmul E.1 E.2.1 dX2_spreadLow_23 ?_
      refine lv_aload_n E.1 E.2.1 dX2_spreadLow_24 rfl (lv_at hl 0 rfl) ?_
      refine gf_X2_9 E hW g6 dX2_spreadLow_25 ?_
      refine lv_iload_n E.1 E.2.1 dX2_spreadLow_28 rfl (lv_at hl 2 rfl) ?_
      refine r_lald E hW (pr_eq g7.1) g7.2 dX2_spreadLow_29 ?_
      refine r_minJ E (lv_size hl) ⟨kw_569, kw_518, kw_19, kw_519⟩ ⟨(Nat.le_of_ble_eq_true rfl), (Nat.le_of_ble_eq_true rfl)⟩ ⟨(Nat.le_of_ble_eq_true rfl), (Nat.le_of_ble_eq_true rfl)⟩ dX2_spreadLow_30 ?_
      refine lv_ladd E.1 E.2.1 dX2_spreadLow_33 ?_
      refine lv_topl (fun x10 ex10 => ?_)
      have h := bnd_r ex10 h
      refine lv_lstore_n (lv' := [(1, .long x10), (0, .ref (G.2.2.2 + q2)), (3, .int x4)]) E.1 E.2.1 dX2_spreadLow_34 rfl hl (by decide) rfl (fun ls hl => ?_)
      obtain ⟨x11, ex11⟩ : ∃ y : Int32, y = x4 + (1 : Int32) := ⟨_, rfl⟩
      have h := bnd_r ex11 h
      refine lv_iinc (v := x11) (lv' := [(3, .int x11), (1, .long x10), (0, .ref (G.2.2.2 + q2))]) E.1 E.2.1 dX2_spreadLow_35 hl (k := 2) rfl (by rw [ex11]; rfl) (by decide) rfl (fun ls hl => ?_)
      refine lv_goto (tgt := 4) E.1 E.2.1 dX2_spreadLow_38 (by decide) ?_
      exact ih _ _ _ _ _ _ _ h hW (lv_sub hl [2, 1, 0] rfl)
set_option maxHeartbeats 4000000 in
set_option maxRecDepth 100000 in
theorem m_X2_spreadLow {l : Launch} {G : GP} {sz : Nat} {q0 : Nat} {σ σ0 : St} {r0 : Int64} (h : f_X2_spreadLow q0 σ = some (r0, σ0)) : Met l yX2_spreadLow [.code yX2_spreadLow cX2_spreadLow 4 (some .long)] ({ frames := 1, cells := 0, slots := 0, locals := 24 } : Room) (va_Pc [.ref (G.2.2.2 + q0)] (PreC G skC sz σ)) (QO (PoC G skC σ0) (Aw G.2.2.2 skC.1 sz) (some (.long r0))) 0 0 (Aw G.2.2.2 skC.1 sz) := by
  refine mkMet (by decide +kernel) (Nat.le_of_ble_eq_true rfl) skC_ok ?_
  intro p e s m below meth c ls E hW hl hr hlk
  have hl : lv_has ls 4 [(0, .ref (G.2.2.2 + q0))] := hl
  generalize Aw G.2.2.2 skC.1 s.heap.size = A0 at E hW ⊢
  generalize ([.ref (G.2.2.2 + q0)] : List Value).toArray = args
  unfold f_X2_spreadLow at h
  refine lv_lconst (v := (0 : Int64)) E.1 E.2.1 dX2_spreadLow_0 (by decide) ?_
  refine lv_lstore_n (lv' := [(1, .long (0 : Int64)), (0, .ref (G.2.2.2 + q0))]) E.1 E.2.1 dX2_spreadLow_1 rfl hl (by decide) rfl (fun ls hl => ?_)
  refine lv_iconst (v := (0 : Int32)) E.1 E.2.1 dX2_spreadLow_2 (by decide) ?_
  refine lv_istore_n (lv' := [(3, .int (0 : Int32)), (1, .long (0 : Int64)), (0, .ref (G.2.2.2 + q0))]) E.1 E.2.1 dX2_spreadLow_3 rfl hl (by decide) rfl (fun ls hl => ?_)
  refine L_X2_spreadLow_4 E hr hlk _ _ _ _ _ _ _ _ h hW (lv_sub hl [2, 1, 0] rfl)
set_option maxHeartbeats 4000000 in
set_option maxRecDepth 100000 in
theorem L_X2_spreadHigh_4 {p : Program} {l : Launch} {e : Env} {s : State} {m : MethodId} {args : Array Value} {below : List Frame} {meth : Method} {c : Code} {G : GP} {A0 : Nat → Prop} {σ0 : St} {r0 : Int64} (E : En p m c s cX2_spreadHigh 4 yX2_spreadHigh.cls G A0) (hr : meth.sig.returnType = (some .long)) (hlk : meth.locks = false) : ∀ (n5 : Nat) (q2 : Nat) (x3 : Int64) (x4 : Int32) (σ1 : St) (H : Heap) (locs : List Loc) (ls : Array Slot), f_X2_spreadHigh_L4 n5 q2 x3 x4 σ1 = some (r0, σ0) → Wo G skC A0 s σ1 H locs → lv_has ls 4 [(0, .ref (G.2.2.2 + q2)), (1, .long x3), (3, .int x4)] → W p l e ({ frames := 1, cells := 0, slots := 0, locals := 24 } : Room) s m args below meth c H locs 0 0 (MQ below (QO (PoC G skC σ0) A0 (some (.long r0))) args s 0 0 A0) (F0 m 4 ls []) := by
  intro n5
  induction n5 with
  | zero =>
    intro q2 x3 x4 σ1 H locs ls h hW hl
    rw [f_X2_spreadHigh_L4] at h
    cases h
  | succ n5 ih =>
    intro q2 x3 x4 σ1 H locs ls h hW hl
    rw [f_X2_spreadHigh_L4] at h
    refine lv_iload_n E.1 E.2.1 dX2_spreadHigh_4 rfl (lv_at hl 2 rfl) ?_
    refine lv_bipush (v := (10 : Int32)) E.1 E.2.1 dX2_spreadHigh_5 (by decide) ?_
    refine lv_icmp_ge (tgt := 41) E.1 E.2.1 dX2_spreadHigh_7 (by decide) (fun g => ?_) (fun g => ?_)
    · have h := ifp h g
      refine lv_lload_n E.1 E.2.1 dX2_spreadHigh_41 rfl (lv_at hl 1 rfl) ?_
      exact e_j E hW hr hlk h dX2_spreadHigh_42
    · have h := ifn h g
      refine lv_lload_n E.1 E.2.1 dX2_spreadHigh_10 rfl (lv_at hl 1 rfl) ?_
      refine lv_aload_n E.1 E.2.1 dX2_spreadHigh_11 rfl (lv_at hl 0 rfl) ?_
      obtain ⟨g6, h⟩ := gd_r h
      refine gf_X2_9 E hW g6 dX2_spreadHigh_12 ?_
      refine lv_iload_n E.1 E.2.1 dX2_spreadHigh_15 rfl (lv_at hl 2 rfl) ?_
      obtain ⟨g7, h⟩ := gd_r h
      refine r_lald E hW (pr_eq g7.1) g7.2 dX2_spreadHigh_16 ?_
      refine r_getsN E hW 3 (by decide) rfl kw_506 dX2_spreadHigh_17 (fun t8 Tt8 => ?_)
      refine lv_iload_n E.1 E.2.1 dX2_spreadHigh_20 rfl (lv_at hl 2 rfl) ?_
      obtain ⟨g9, h⟩ := gd_r h
      refine r_tald E hW 3 Tt8 g9 dX2_spreadHigh_21 ?_
      refine lv_i2l E.1 E.2.1 dX2_spreadHigh_22 rfl ?_
      refine lv_lmul E.1 E.2.1 dX2_spreadHigh_23 ?_
      refine lv_aload_n E.1 E.2.1 dX2_spreadHigh_24 rfl (lv_at hl 0 rfl) ?_
      refine gf_X2_9 E hW g6 dX2_spreadHigh_25 ?_
      refine lv_iload_n E.1 E.2.1 dX2_spreadHigh_28 rfl (lv_at hl 2 rfl) ?_
      refine r_lald E hW (pr_eq g7.1) g7.2 dX2_spreadHigh_29 ?_
      refine r_maxJ E (lv_size hl) ⟨kw_575, kw_480, kw_19, kw_481⟩ ⟨(Nat.le_of_ble_eq_true rfl), (Nat.le_of_ble_eq_true rfl)⟩ ⟨(Nat.le_of_ble_eq_true rfl), (Nat.le_of_ble_eq_true rfl)⟩ dX2_spreadHigh_30 ?_
      refine lv_ladd E.1 E.2.1 dX2_spreadHigh_33 ?_
      refine lv_topl (fun x10 ex10 => ?_)
      have h := bnd_r ex10 h
      refine lv_lstore_n (lv' := [(1, .long x10), (0, .ref (G.2.2.2 + q2)), (3, .int x4)]) E.1 E.2.1 dX2_spreadHigh_34 rfl hl (by decide) rfl (fun ls hl => ?_)
      obtain ⟨x11, ex11⟩ : ∃ y : Int32, y = x4 + (1 : Int32) := ⟨_, rfl⟩
      have h := bnd_r ex11 h
      refine lv_iinc (v := x11) (lv' := [(3, .int x11), (1, .long x10), (0, .ref (G.2.2.2 + q2))]) E.1 E.2.1 dX2_spreadHigh_35 hl (k := 2) rfl (by rw [ex11]; rfl) (by decide) rfl (fun ls hl => ?_)
      refine lv_goto (tgt := 4) E.1 E.2.1 dX2_spreadHigh_38 (by decide) ?_
      exact ih _ _ _ _ _ _ _ h hW (lv_sub hl [2, 1, 0] rfl)
set_option maxHeartbeats 4000000 in
set_option maxRecDepth 100000 in
theorem m_X2_spreadHigh {l : Launch} {G : GP} {sz : Nat} {q0 : Nat} {σ σ0 : St} {r0 : Int64} (h : f_X2_spreadHigh q0 σ = some (r0, σ0)) : Met l yX2_spreadHigh [.code yX2_spreadHigh cX2_spreadHigh 4 (some .long)] ({ frames := 1, cells := 0, slots := 0, locals := 24 } : Room) (va_Pc [.ref (G.2.2.2 + q0)] (PreC G skC sz σ)) (QO (PoC G skC σ0) (Aw G.2.2.2 skC.1 sz) (some (.long r0))) 0 0 (Aw G.2.2.2 skC.1 sz) := by
  refine mkMet (by decide +kernel) (Nat.le_of_ble_eq_true rfl) skC_ok ?_
  intro p e s m below meth c ls E hW hl hr hlk
  have hl : lv_has ls 4 [(0, .ref (G.2.2.2 + q0))] := hl
  generalize Aw G.2.2.2 skC.1 s.heap.size = A0 at E hW ⊢
  generalize ([.ref (G.2.2.2 + q0)] : List Value).toArray = args
  unfold f_X2_spreadHigh at h
  refine lv_lconst (v := (0 : Int64)) E.1 E.2.1 dX2_spreadHigh_0 (by decide) ?_
  refine lv_lstore_n (lv' := [(1, .long (0 : Int64)), (0, .ref (G.2.2.2 + q0))]) E.1 E.2.1 dX2_spreadHigh_1 rfl hl (by decide) rfl (fun ls hl => ?_)
  refine lv_iconst (v := (0 : Int32)) E.1 E.2.1 dX2_spreadHigh_2 (by decide) ?_
  refine lv_istore_n (lv' := [(3, .int (0 : Int32)), (1, .long (0 : Int64)), (0, .ref (G.2.2.2 + q0))]) E.1 E.2.1 dX2_spreadHigh_3 rfl hl (by decide) rfl (fun ls hl => ?_)
  refine L_X2_spreadHigh_4 E hr hlk _ _ _ _ _ _ _ _ h hW (lv_sub hl [2, 1, 0] rfl)
set_option maxHeartbeats 4000000 in
set_option maxRecDepth 100000 in
theorem m_X0_addIntervalProduct {l : Launch} {G : GP} {sz : Nat} {q0 : Nat} {a1 : Int64} {a3 : Int64} {a5 : Int64} {a7 : Int64} {σ σ0 : St} {r0 : Unit} (h : f_X0_addIntervalProduct q0 a1 a3 a5 a7 σ = some (r0, σ0)) : Met l yX0_addIntervalProduct [.code yX0_addIntervalProduct cX0_addIntervalProduct 17 none] ({ frames := 1, cells := 0, slots := 0, locals := 24 } : Room) (va_Pc [.ref (G.2.2.2 + q0), .long a1, .long a3, .long a5, .long a7] (PreC G skC sz σ)) (QO (PoC G skC σ0) (Aw G.2.2.2 skC.1 sz) none) 0 0 (Aw G.2.2.2 skC.1 sz) := by
  refine mkMet (by decide +kernel) (Nat.le_of_ble_eq_true rfl) skC_ok ?_
  intro p e s m below meth c ls E hW hl hr hlk
  have hl : lv_has ls 17 [(0, .ref (G.2.2.2 + q0)), (1, .long a1), (3, .long a3), (5, .long a5), (7, .long a7)] := hl
  generalize Aw G.2.2.2 skC.1 s.heap.size = A0 at E hW ⊢
  generalize ([.ref (G.2.2.2 + q0), .long a1, .long a3, .long a5, .long a7] : List Value).toArray = args
  unfold f_X0_addIntervalProduct at h
  refine lv_lload_n E.1 E.2.1 dX0_addIntervalProduct_0 rfl (lv_at hl 1 rfl) ?_
  refine lv_lload E.1 E.2.1 dX0_addIntervalProduct_1 (lv_at hl 3 rfl) ?_
  refine lv_lmul E.1 E.2.1 dX0_addIntervalProduct_3 ?_
  refine lv_topl (fun x1 ex1 => ?_)
  have h := bnd_r ex1 h
  refine lv_lstore (lv' := [(9, .long x1), (0, .ref (G.2.2.2 + q0)), (1, .long a1), (3, .long a3), (5, .long a5), (7, .long a7)]) E.1 E.2.1 dX0_addIntervalProduct_4 hl (by decide) rfl (fun ls hl => ?_)
  refine lv_lload_n E.1 E.2.1 dX0_addIntervalProduct_6 rfl (lv_at hl 2 rfl) ?_
  refine lv_lload E.1 E.2.1 dX0_addIntervalProduct_7 (lv_at hl 5 rfl) ?_
  refine lv_lmul E.1 E.2.1 dX0_addIntervalProduct_9 ?_
  refine lv_topl (fun x2 ex2 => ?_)
  have h := bnd_r ex2 h
  refine lv_lstore (lv' := [(11, .long x2), (9, .long x1), (0, .ref (G.2.2.2 + q0)), (1, .long a1), (3, .long a3), (5, .long a5), (7, .long a7)]) E.1 E.2.1 dX0_addIntervalProduct_10 hl (by decide) rfl (fun ls hl => ?_)
  refine lv_lload_n E.1 E.2.1 dX0_addIntervalProduct_12 rfl (lv_at hl 4 rfl) ?_
  refine lv_lload E.1 E.2.1 dX0_addIntervalProduct_13 (lv_at hl 5 rfl) ?_
  refine lv_lmul E.1 E.2.1 dX0_addIntervalProduct_15 ?_
  refine lv_topl (fun x3 ex3 => ?_)
  have h := bnd_r ex3 h
  refine lv_lstore (lv' := [(13, .long x3), (11, .long x2), (9, .long x1), (0, .ref (G.2.2.2 + q0)), (1, .long a1), (3, .long a3), (5, .long a5), (7, .long a7)]) E.1 E.2.1 dX0_addIntervalProduct_16 hl (by decide) rfl (fun ls hl => ?_)
  refine lv_lload_n E.1 E.2.1 dX0_addIntervalProduct_18 rfl (lv_at hl 5 rfl) ?_
  refine lv_lload E.1 E.2.1 dX0_addIntervalProduct_19 (lv_at hl 7 rfl) ?_
  refine lv_lmul E.1 E.2.1 dX0_addIntervalProduct_21 ?_
  refine lv_topl (fun x4 ex4 => ?_)
  have h := bnd_r ex4 h
  refine lv_lstore (lv' := [(15, .long x4), (13, .long x3), (11, .long x2), (9, .long x1), (0, .ref (G.2.2.2 + q0)), (1, .long a1), (3, .long a3), (5, .long a5), (7, .long a7)]) E.1 E.2.1 dX0_addIntervalProduct_22 hl (by decide) rfl (fun ls hl => ?_)
  refine lv_aload_n E.1 E.2.1 dX0_addIntervalProduct_24 rfl (lv_at hl 4 rfl) ?_
  refine lv_dup E.1 E.2.1 dX0_addIntervalProduct_25 rfl ?_
  obtain ⟨g5, h⟩ := gd_r h
  refine gf_X0_52 E hW g5 dX0_addIntervalProduct_26 ?_
  refine lv_lload E.1 E.2.1 dX0_addIntervalProduct_29 (lv_at hl 3 rfl) ?_
  refine lv_lload E.1 E.2.1 dX0_addIntervalProduct_31 (lv_at hl 2 rfl) ?_
  refine r_minJ E (lv_size hl) ⟨kw_594, kw_518, kw_19, kw_519⟩ ⟨(Nat.le_of_ble_eq_true rfl), (Nat.le_of_ble_eq_true rfl)⟩ ⟨(Nat.le_of_ble_eq_true rfl), (Nat.le_of_ble_eq_true rfl)⟩ dX0_addIntervalProduct_33 ?_
  refine lv_lload E.1 E.2.1 dX0_addIntervalProduct_36 (lv_at hl 1 rfl) ?_
  refine lv_lload E.1 E.2.1 dX0_addIntervalProduct_38 (lv_at hl 0 rfl) ?_
  refine r_minJ E (lv_size hl) ⟨kw_594, kw_518, kw_19, kw_519⟩ ⟨(Nat.le_of_ble_eq_true rfl), (Nat.le_of_ble_eq_true rfl)⟩ ⟨(Nat.le_of_ble_eq_true rfl), (Nat.le_of_ble_eq_true rfl)⟩ dX0_addIntervalProduct_40 ?_
  refine r_minJ E (lv_size hl) ⟨kw_594, kw_518, kw_19, kw_519⟩ ⟨(Nat.le_of_ble_eq_true rfl), (Nat.le_of_ble_eq_true rfl)⟩ ⟨(Nat.le_of_ble_eq_true rfl), (Nat.le_of_ble_eq_true rfl)⟩ dX0_addIntervalProduct_43 ?_
  refine lv_ladd E.1 E.2.1 dX0_addIntervalProduct_46 ?_
  refine pf_X0_52 E hW g5 dX0_addIntervalProduct_47 (fun σ6 H locs eσ6 hW => ?_)
  have h := bnd_r eσ6 h
  refine lv_aload_n E.1 E.2.1 dX0_addIntervalProduct_50 rfl (lv_at hl 4 rfl) ?_
  refine lv_dup E.1 E.2.1 dX0_addIntervalProduct_51 rfl ?_
  refine gf_X0_53 E hW g5 dX0_addIntervalProduct_52 ?_
  refine lv_lload E.1 E.2.1 dX0_addIntervalProduct_55 (lv_at hl 3 rfl) ?_
  refine lv_lload E.1 E.2.1 dX0_addIntervalProduct_57 (lv_at hl 2 rfl) ?_
  refine r_maxJ E (lv_size hl) ⟨kw_479, kw_480, kw_19, kw_481⟩ ⟨(Nat.le_of_ble_eq_true rfl), (Nat.le_of_ble_eq_true rfl)⟩ ⟨(Nat.le_of_ble_eq_true rfl), (Nat.le_of_ble_eq_true rfl)⟩ dX0_addIntervalProduct_59 ?_
  refine lv_lload E.1 E.2.1 dX0_addIntervalProduct_62 (lv_at hl 1 rfl) ?_
  refine lv_lload E.1 E.2.1 dX0_addIntervalProduct_64 (lv_at hl 0 rfl) ?_
  refine r_maxJ E (lv_size hl) ⟨kw_479, kw_480, kw_19, kw_481⟩ ⟨(Nat.le_of_ble_eq_true rfl), (Nat.le_of_ble_eq_true rfl)⟩ ⟨(Nat.le_of_ble_eq_true rfl), (Nat.le_of_ble_eq_true rfl)⟩ dX0_addIntervalProduct_66 ?_
  refine r_maxJ E (lv_size hl) ⟨kw_479, kw_480, kw_19, kw_481⟩ ⟨(Nat.le_of_ble_eq_true rfl), (Nat.le_of_ble_eq_true rfl)⟩ ⟨(Nat.le_of_ble_eq_true rfl), (Nat.le_of_ble_eq_true rfl)⟩ dX0_addIntervalProduct_69 ?_
  refine lv_ladd E.1 E.2.1 dX0_addIntervalProduct_72 ?_
  refine pf_X0_53 E hW g5 dX0_addIntervalProduct_73 (fun σ7 H locs eσ7 hW => ?_)
  have h := bnd_r eσ7 h
  exact e_v E hW hr hlk h dX0_addIntervalProduct_76
set_option maxHeartbeats 4000000 in
set_option maxRecDepth 100000 in
theorem m_X2_putQuotient {l : Launch} {G : GP} {sz : Nat} {q0 : Nat} {a1 : Int32} {a2 : Int64} {a4 : Int64} {σ σ0 : St} {r0 : Unit} (h : f_X2_putQuotient q0 a1 a2 a4 σ = some (r0, σ0)) : Met l yX2_putQuotient [.code yX2_putQuotient cX2_putQuotient 8 none] ({ frames := 1, cells := 0, slots := 0, locals := 25 } : Room) (va_Pc [.ref (G.2.2.2 + q0), .int a1, .long a2, .long a4] (PreC G skC sz σ)) (QO (PoC G skC σ0) (Aw G.2.2.2 skC.1 sz) none) 0 0 (Aw G.2.2.2 skC.1 sz) := by
  refine mkMet (by decide +kernel) (Nat.le_of_ble_eq_true rfl) skC_ok ?_
  intro p e s m below meth c ls E hW hl hr hlk
  have hl : lv_has ls 8 [(0, .ref (G.2.2.2 + q0)), (1, .int a1), (2, .long a2), (4, .long a4)] := hl
  generalize Aw G.2.2.2 skC.1 s.heap.size = A0 at E hW ⊢
  generalize ([.ref (G.2.2.2 + q0), .int a1, .long a2, .long a4] : List Value).toArray = args
  unfold f_X2_putQuotient at h
  refine lv_iload_n E.1 E.2.1 dX2_putQuotient_0 rfl (lv_at hl 1 rfl) ?_
  refine lv_if_lt (tgt := 17) E.1 E.2.1 dX2_putQuotient_1 (by decide) (fun g => ?_) (fun g => ?_)
  · have h := ifp h g
    exact e_v E hW hr hlk h dX2_putQuotient_17
  · have h := ifn h g
    refine lv_iload_n E.1 E.2.1 dX2_putQuotient_4 rfl (lv_at hl 1 rfl) ?_
    refine lv_bipush (v := (10 : Int32)) E.1 E.2.1 dX2_putQuotient_5 (by decide) ?_
    refine lv_icmp_ge (tgt := 17) E.1 E.2.1 dX2_putQuotient_7 (by decide) (fun g => ?_) (fun g => ?_)
    · have h := ifp h g
      exact e_v E hW hr hlk h dX2_putQuotient_17
    · have h := ifn h g
      refine lv_lload E.1 E.2.1 dX2_putQuotient_10 (lv_at hl 3 rfl) ?_
      refine lv_lconst (v := (0 : Int64)) E.1 E.2.1 dX2_putQuotient_12 (by decide) ?_
      refine r_lc_gt E dX2_putQuotient_13 dX2_putQuotient_14 (tgt := 18) (by decide) (fun g => ?_) (fun g => ?_)
      · have h := ifp h g
        refine lv_lload_n E.1 E.2.1 dX2_putQuotient_18 rfl (lv_at hl 2 rfl) ?_
        refine lv_lload E.1 E.2.1 dX2_putQuotient_19 (lv_at hl 3 rfl) ?_
        obtain ⟨x2, σ1, c3, h⟩ := obn_r h
        refine c_S (As := [.long a2, .long a4]) (rest := []) E hW (m_J9_floorDiv_f86c9 c3) kw_503 ws_J9_floorDiv_f86c9 yo_J9_floorDiv_f86c9 ⟨rfl, rfl⟩ ⟨(Nat.le_of_ble_eq_true rfl), (Nat.le_of_ble_eq_true rfl)⟩ (lv_size hl) (Nat.le_of_ble_eq_true rfl) ⟨(Nat.le_of_ble_eq_true rfl), (Nat.le_of_ble_eq_true rfl)⟩ rfl dX2_putQuotient_21 (fun H locs hW => ?_)
        refine W.eq (g2 := F0 m 24 ls [.long x2]) rfl ?_
        refine lv_lstore (lv' := [(6, .long x2), (0, .ref (G.2.2.2 + q0)), (1, .int a1), (2, .long a2), (4, .long a4)]) E.1 E.2.1 dX2_putQuotient_24 hl (by decide) rfl (fun ls hl => ?_)
        refine lv_aload_n E.1 E.2.1 dX2_putQuotient_26 rfl (lv_at hl 1 rfl) ?_
        obtain ⟨g4, h⟩ := gd_r h
        refine gf_X2_9 E hW g4 dX2_putQuotient_27 ?_
        refine lv_iload_n E.1 E.2.1 dX2_putQuotient_30 rfl (lv_at hl 2 rfl) ?_
        refine lv_lload E.1 E.2.1 dX2_putQuotient_31 (lv_at hl 0 rfl) ?_
        obtain ⟨g5, h⟩ := gd_r h
        refine r_last E hW (pr_eq g5.1) g5.2 dX2_putQuotient_33 (fun σ6 H locs eσ6 hW => ?_)
        have h := bnd_r eσ6 h
        refine lv_lload E.1 E.2.1 dX2_putQuotient_34 (lv_at hl 0 rfl) ?_
        refine lv_lload E.1 E.2.1 dX2_putQuotient_36 (lv_at hl 4 rfl) ?_
        refine lv_lmul E.1 E.2.1 dX2_putQuotient_38 ?_
        refine lv_lload_n E.1 E.2.1 dX2_putQuotient_39 rfl (lv_at hl 3 rfl) ?_
        refine r_lc_eq E dX2_putQuotient_40 dX2_putQuotient_41 (tgt := 73) (by decide) (fun g => ?_) (fun g => ?_)
        · have h := ifp h g
          exact e_v E hW hr hlk h dX2_putQuotient_73
        · have h := ifn h g
          refine lv_aload_n E.1 E.2.1 dX2_putQuotient_44 rfl (lv_at hl 1 rfl) ?_
          refine lv_dup E.1 E.2.1 dX2_putQuotient_45 rfl ?_
          refine gf_X2_21 E hW g4 dX2_putQuotient_46 ?_
          refine r_getsN E hW 3 (by decide) rfl kw_506 dX2_putQuotient_49 (fun t7 Tt7 => ?_)
          refine lv_iload_n E.1 E.2.1 dX2_putQuotient_52 rfl (lv_at hl 2 rfl) ?_
          obtain ⟨g8, h⟩ := gd_r h
          refine r_tald E hW 3 Tt7 g8 dX2_putQuotient_53 ?_
          refine lv_iconst (v := (0 : Int32)) E.1 E.2.1 dX2_putQuotient_54 (by decide) ?_
          refine r_minI E (lv_size hl) ⟨kw_508, kw_509, kw_19, kw_510⟩ ⟨(Nat.le_of_ble_eq_true rfl), (Nat.le_of_ble_eq_true rfl)⟩ ⟨(Nat.le_of_ble_eq_true rfl), (Nat.le_of_ble_eq_true rfl)⟩ dX2_putQuotient_55 ?_
          refine lv_i2l E.1 E.2.1 dX2_putQuotient_58 rfl ?_
          refine lv_ladd E.1 E.2.1 dX2_putQuotient_59 ?_
          refine pf_X2_21 E hW g4 dX2_putQuotient_60 (fun σ9 H locs eσ9 hW => ?_)
          have h := bnd_r eσ9 h
          refine lv_aload_n E.1 E.2.1 dX2_putQuotient_63 rfl (lv_at hl 1 rfl) ?_
          refine lv_dup E.1 E.2.1 dX2_putQuotient_64 rfl ?_
          refine gf_X2_25 E hW g4 dX2_putQuotient_65 ?_
          refine lv_lconst (v := (1 : Int64)) E.1 E.2.1 dX2_putQuotient_68 (by decide) ?_
          refine lv_ladd E.1 E.2.1 dX2_putQuotient_69 ?_
          refine pf_X2_25 E hW g4 dX2_putQuotient_70 (fun σ10 H locs eσ10 hW => ?_)
          have h := bnd_r eσ10 h
          exact e_v E hW hr hlk h dX2_putQuotient_73
      · have h := ifn h g
        exact e_v E hW hr hlk h dX2_putQuotient_17
set_option maxHeartbeats 4000000 in
set_option maxRecDepth 100000 in
theorem L_X0_multiplyModels_36 {p : Program} {l : Launch} {e : Env} {s : State} {m : MethodId} {args : Array Value} {below : List Frame} {meth : Method} {c : Code} {G : GP} {A0 : Nat → Prop} {σ0 : St} {r0 : Int32} {K108 : Nat → Nat → Nat → Nat → Int32 → St → Option (Int32 × St)} (E : En p m c s cX0_multiplyModels 9 yX0_multiplyModels.cls G A0) (hr : meth.sig.returnType = (some .boolean)) (hlk : meth.locks = false) (hK108 : ∀ (q27 : Nat) (q28 : Nat) (q29 : Nat) (q30 : Nat) (x31 : Int32) (σ26 : St) (H : Heap) (locs : List Loc) (ls : Array Slot), K108 q27 q28 q29 q30 x31 σ26 = some (r0, σ0) → Wo G skC A0 s σ26 H locs → lv_has ls 9 [(0, .ref (G.2.2.2 + q27)), (1, .ref (G.2.2.2 + q28)), (2, .ref (G.2.2.2 + q29)), (3, .ref (G.2.2.2 + q30)), (4, .int x31)] → W p l e ({ frames := 2, cells := 0, slots := 0, locals := 60 } : Room) s m args below meth c H locs 0 0 (MQ below (QO (PoC G skC σ0) A0 (some (.int r0))) args s 0 0 A0) (F0 m 108 ls [])) : ∀ (n32 : Nat) (q20 : Nat) (q21 : Nat) (q22 : Nat) (q23 : Nat) (x24 : Int32) (x25 : Int32) (σ19 : St) (H : Heap) (locs : List Loc) (ls : Array Slot), f_X0_multiplyModels_L36 K108 n32 q20 q21 q22 q23 x24 x25 σ19 = some (r0, σ0) → Wo G skC A0 s σ19 H locs → lv_has ls 9 [(0, .ref (G.2.2.2 + q20)), (1, .ref (G.2.2.2 + q21)), (2, .ref (G.2.2.2 + q22)), (3, .ref (G.2.2.2 + q23)), (4, .int x24), (5, .int x25)] → W p l e ({ frames := 2, cells := 0, slots := 0, locals := 60 } : Room) s m args below meth c H locs 0 0 (MQ below (QO (PoC G skC σ0) A0 (some (.int r0))) args s 0 0 A0) (F0 m 36 ls []) := by
  intro n32
  induction n32 with
  | zero =>
    intro q20 q21 q22 q23 x24 x25 σ19 H locs ls h hW hl
    rw [f_X0_multiplyModels_L36] at h
    cases h
  | succ n32 ih =>
    intro q20 q21 q22 q23 x24 x25 σ19 H locs ls h hW hl
    rw [f_X0_multiplyModels_L36] at h
    refine lv_iload E.1 E.2.1 dX0_multiplyModels_36 (lv_at hl 4 rfl) ?_
    refine lv_iload E.1 E.2.1 dX0_multiplyModels_38 (lv_at hl 5 rfl) ?_
    refine lv_iadd E.1 E.2.1 dX0_multiplyModels_40 ?_
    refine lv_bipush (v := (7 : Int32)) E.1 E.2.1 dX0_multiplyModels_41 (by decide) ?_
    refine lv_icmp_ge (tgt := 108) E.1 E.2.1 dX0_multiplyModels_43 (by decide) (fun g => ?_) (fun g => ?_)
    · have h := ifp h g
      exact hK108 _ _ _ _ _ _ _ _ _ h hW (lv_sub hl [0, 1, 2, 3, 4] rfl)
    · have h := ifn h g
      refine lv_aload_n E.1 E.2.1 dX0_multiplyModels_46 rfl (lv_at hl 0 rfl) ?_
      obtain ⟨g33, h⟩ := gd_r h
      refine gf_X0_11 E hW g33 dX0_multiplyModels_47 ?_
      refine lv_iload E.1 E.2.1 dX0_multiplyModels_50 (lv_at hl 4 rfl) ?_
      refine lv_bipush (v := (7 : Int32)) E.1 E.2.1 dX0_multiplyModels_52 (by decide) ?_
      refine lv_imul E.1 E.2.1 dX0_multiplyModels_54 ?_
      refine lv_iload E.1 E.2.1 dX0_multiplyModels_55 (lv_at hl 5 rfl) ?_
      refine lv_iadd E.1 E.2.1 dX0_multiplyModels_57 ?_
      obtain ⟨g34, h⟩ := gd_r h
      refine r_lald E hW (pr_eq g34.1) g34.2 dX0_multiplyModels_58 ?_
      refine lv_topl (fun x35 ex35 => ?_)
      have h := bnd_r ex35 h
      refine lv_lstore (lv' := [(6, .long x35), (0, .ref (G.2.2.2 + q20)), (1, .ref (G.2.2.2 + q21)), (2, .ref (G.2.2.2 + q22)), (3, .ref (G.2.2.2 + q23)), (4, .int x24), (5, .int x25)]) E.1 E.2.1 dX0_multiplyModels_59 hl (by decide) rfl (fun ls hl => ?_)
      refine lv_iload E.1 E.2.1 dX0_multiplyModels_61 (lv_at hl 5 rfl) ?_
      refine lv_iload E.1 E.2.1 dX0_multiplyModels_63 (lv_at hl 6 rfl) ?_
      obtain ⟨x37, σ36, c38, h⟩ := obn_r h
      refine c_SN (As := [.int x24, .int x25]) (rest := []) E hW (m_X6_lowestOf c38) kw_511 ws_X6_lowestOf yo_X6_lowestOf ⟨rfl, rfl⟩ ⟨(Nat.le_of_ble_eq_true rfl), (Nat.le_of_ble_eq_true rfl)⟩ (lv_size hl) (Nat.le_of_ble_eq_true rfl) ⟨(Nat.le_of_ble_eq_true rfl), (Nat.le_of_ble_eq_true rfl)⟩ rfl dX0_multiplyModels_65 (fun H locs hW => ?_)
      refine W.eq (g2 := F0 m 68 ls [.int x37]) rfl ?_
      refine lv_istore (lv' := [(8, .int x37), (6, .long x35), (0, .ref (G.2.2.2 + q20)), (1, .ref (G.2.2.2 + q21)), (2, .ref (G.2.2.2 + q22)), (3, .ref (G.2.2.2 + q23)), (4, .int x24), (5, .int x25)]) E.1 E.2.1 dX0_multiplyModels_68 hl (by decide) rfl (fun ls hl => ?_)
      refine lv_aload_n E.1 E.2.1 dX0_multiplyModels_70 rfl (lv_at hl 2 rfl) ?_
      refine lv_dup E.1 E.2.1 dX0_multiplyModels_71 rfl ?_
      refine gf_X0_52 E hW g33 dX0_multiplyModels_72 ?_
      refine lv_lload E.1 E.2.1 dX0_multiplyModels_75 (lv_at hl 1 rfl) ?_
      refine lv_iload E.1 E.2.1 dX0_multiplyModels_77 (lv_at hl 0 rfl) ?_
      obtain ⟨x40, σ39, c41, h⟩ := obn_r h
      refine c_SN (As := [.long x35, .int x37]) (rest := [.long (σ36.2 q20 1), .ref (G.2.2.2 + q20)]) E hW (m_X6_rangeLow c41) kw_514 ws_X6_rangeLow yo_X6_rangeLow ⟨rfl, rfl⟩ ⟨(Nat.le_of_ble_eq_true rfl), (Nat.le_of_ble_eq_true rfl)⟩ (lv_size hl) (Nat.le_of_ble_eq_true rfl) ⟨(Nat.le_of_ble_eq_true rfl), (Nat.le_of_ble_eq_true rfl)⟩ rfl dX0_multiplyModels_79 (fun H locs hW => ?_)
      refine W.eq (g2 := F0 m 82 ls [.long x40, .long (σ36.2 q20 1), .ref (G.2.2.2 + q20)]) rfl ?_
      refine lv_ladd E.1 E.2.1 dX0_multiplyModels_82 ?_
      refine pf_X0_52 E hW g33 dX0_multiplyModels_83 (fun σ42 H locs eσ42 hW => ?_)
      have h := bnd_r eσ42 h
      refine lv_aload_n E.1 E.2.1 dX0_multiplyModels_86 rfl (lv_at hl 2 rfl) ?_
      refine lv_dup E.1 E.2.1 dX0_multiplyModels_87 rfl ?_
      refine gf_X0_53 E hW g33 dX0_multiplyModels_88 ?_
      refine lv_lload E.1 E.2.1 dX0_multiplyModels_91 (lv_at hl 1 rfl) ?_
      refine lv_iload E.1 E.2.1 dX0_multiplyModels_93 (lv_at hl 0 rfl) ?_
      obtain ⟨x44, σ43, c45, h⟩ := obn_r h
      refine c_SN (As := [.long x35, .int x37]) (rest := [.long (σ42.2 q20 2), .ref (G.2.2.2 + q20)]) E hW (m_X6_rangeHigh c45) kw_521 ws_X6_rangeHigh yo_X6_rangeHigh ⟨rfl, rfl⟩ ⟨(Nat.le_of_ble_eq_true rfl), (Nat.le_of_ble_eq_true rfl)⟩ (lv_size hl) (Nat.le_of_ble_eq_true rfl) ⟨(Nat.le_of_ble_eq_true rfl), (Nat.le_of_ble_eq_true rfl)⟩ rfl dX0_multiplyModels_95 (fun H locs hW => ?_)
      refine W.eq (g2 := F0 m 98 ls [.long x44, .long (σ42.2 q20 2), .ref (G.2.2.2 + q20)]) rfl ?_
      refine lv_ladd E.1 E.2.1 dX0_multiplyModels_98 ?_
      refine pf_X0_53 E hW g33 dX0_multiplyModels_99 (fun σ46 H locs eσ46 hW => ?_)
      have h := bnd_r eσ46 h
      obtain ⟨x47, ex47⟩ : ∃ y : Int32, y = x25 + (1 : Int32) := ⟨_, rfl⟩
      have h := bnd_r ex47 h
      refine lv_iinc (v := x47) (lv' := [(5, .int x47), (8, .int x37), (6, .long x35), (0, .ref (G.2.2.2 + q20)), (1, .ref (G.2.2.2 + q21)), (2, .ref (G.2.2.2 + q22)), (3, .ref (G.2.2.2 + q23)), (4, .int x24)]) E.1 E.2.1 dX0_multiplyModels_102 hl (k := 7) rfl (by rw [ex47]; rfl) (by decide) rfl (fun ls hl => ?_)
      refine lv_goto (tgt := 36) E.1 E.2.1 dX0_multiplyModels_105 (by decide) ?_
      exact ih _ _ _ _ _ _ _ _ _ _ h hW (lv_sub hl [3, 4, 5, 6, 7, 0] rfl)
set_option maxHeartbeats 4000000 in
set_option maxRecDepth 100000 in
theorem L_X0_multiplyModels_19 {p : Program} {l : Launch} {e : Env} {s : State} {m : MethodId} {args : Array Value} {below : List Frame} {meth : Method} {c : Code} {G : GP} {A0 : Nat → Prop} {σ0 : St} {r0 : Int32} {K114 : Nat → Nat → Nat → Nat → St → Option (Int32 × St)} (E : En p m c s cX0_multiplyModels 9 yX0_multiplyModels.cls G A0) (hr : meth.sig.returnType = (some .boolean)) (hlk : meth.locks = false) (hK114 : ∀ (q13 : Nat) (q14 : Nat) (q15 : Nat) (q16 : Nat) (σ12 : St) (H : Heap) (locs : List Loc) (ls : Array Slot), K114 q13 q14 q15 q16 σ12 = some (r0, σ0) → Wo G skC A0 s σ12 H locs → lv_has ls 9 [(0, .ref (G.2.2.2 + q13)), (1, .ref (G.2.2.2 + q14)), (2, .ref (G.2.2.2 + q15)), (3, .ref (G.2.2.2 + q16))] → W p l e ({ frames := 2, cells := 0, slots := 0, locals := 60 } : Room) s m args below meth c H locs 0 0 (MQ below (QO (PoC G skC σ0) A0 (some (.int r0))) args s 0 0 A0) (F0 m 114 ls [])) : ∀ (n17 : Nat) (q7 : Nat) (q8 : Nat) (q9 : Nat) (q10 : Nat) (x11 : Int32) (σ6 : St) (H : Heap) (locs : List Loc) (ls : Array Slot), f_X0_multiplyModels_L19 K114 n17 q7 q8 q9 q10 x11 σ6 = some (r0, σ0) → Wo G skC A0 s σ6 H locs → lv_has ls 9 [(0, .ref (G.2.2.2 + q7)), (1, .ref (G.2.2.2 + q8)), (2, .ref (G.2.2.2 + q9)), (3, .ref (G.2.2.2 + q10)), (4, .int x11)] → W p l e ({ frames := 2, cells := 0, slots := 0, locals := 60 } : Room) s m args below meth c H locs 0 0 (MQ below (QO (PoC G skC σ0) A0 (some (.int r0))) args s 0 0 A0) (F0 m 19 ls []) := by
  intro n17
  induction n17 with
  | zero =>
    intro q7 q8 q9 q10 x11 σ6 H locs ls h hW hl
    rw [f_X0_multiplyModels_L19] at h
    cases h
  | succ n17 ih =>
    intro q7 q8 q9 q10 x11 σ6 H locs ls h hW hl
    rw [f_X0_multiplyModels_L19] at h
    refine lv_iload E.1 E.2.1 dX0_multiplyModels_19 (lv_at hl 4 rfl) ?_
    refine lv_bipush (v := (7 : Int32)) E.1 E.2.1 dX0_multiplyModels_21 (by decide) ?_
    refine lv_icmp_ge (tgt := 114) E.1 E.2.1 dX0_multiplyModels_23 (by decide) (fun g => ?_) (fun g => ?_)
    · have h := ifp h g
      exact hK114 _ _ _ _ _ _ _ _ h hW (lv_sub hl [0, 1, 2, 3] rfl)
    · have h := ifn h g
      refine lv_iconst (v := (0 : Int32)) E.1 E.2.1 dX0_multiplyModels_26 (by decide) ?_
      refine lv_iconst (v := (4 : Int32)) E.1 E.2.1 dX0_multiplyModels_27 (by decide) ?_
      refine lv_iload E.1 E.2.1 dX0_multiplyModels_28 (lv_at hl 4 rfl) ?_
      refine lv_isub E.1 E.2.1 dX0_multiplyModels_30 ?_
      refine r_maxI E (lv_size hl) ⟨kw_585, kw_586, kw_19, kw_587⟩ ⟨(Nat.le_of_ble_eq_true rfl), (Nat.le_of_ble_eq_true rfl)⟩ ⟨(Nat.le_of_ble_eq_true rfl), (Nat.le_of_ble_eq_true rfl)⟩ dX0_multiplyModels_31 ?_
      refine lv_topi (fun x18 ex18 => ?_)
      have h := bnd_r ex18 h
      refine lv_istore (lv' := [(5, .int x18), (0, .ref (G.2.2.2 + q7)), (1, .ref (G.2.2.2 + q8)), (2, .ref (G.2.2.2 + q9)), (3, .ref (G.2.2.2 + q10)), (4, .int x11)]) E.1 E.2.1 dX0_multiplyModels_34 hl (by decide) rfl (fun ls hl => ?_)
      refine L_X0_multiplyModels_36 E hr hlk ?_ _ _ _ _ _ _ _ _ _ _ _ h hW (lv_sub hl [1, 2, 3, 4, 5, 0] rfl)
      · intro q27 q28 q29 q30 x31 σ26 H locs ls h hW hl
        obtain ⟨x48, ex48⟩ : ∃ y : Int32, y = x31 + (1 : Int32) := ⟨_, rfl⟩
        have h := bnd_r ex48 h
        refine lv_iinc (v := x48) (lv' := [(4, .int x48), (0, .ref (G.2.2.2 + q27)), (1, .ref (G.2.2.2 + q28)), (2, .ref (G.2.2.2 + q29)), (3, .ref (G.2.2.2 + q30))]) E.1 E.2.1 dX0_multiplyModels_108 hl (k := 4) rfl (by rw [ex48]; rfl) (by decide) rfl (fun ls hl => ?_)
        refine lv_goto (tgt := 19) E.1 E.2.1 dX0_multiplyModels_111 (by decide) ?_
        exact ih _ _ _ _ _ _ _ _ _ h hW (lv_sub hl [1, 2, 3, 4, 0] rfl)
set_option maxHeartbeats 4000000 in
set_option maxRecDepth 100000 in
theorem L_X0_multiplyModels_207 {p : Program} {l : Launch} {e : Env} {s : State} {m : MethodId} {args : Array Value} {below : List Frame} {meth : Method} {c : Code} {G : GP} {A0 : Nat → Prop} {σ0 : St} {r0 : Int32} {K250 : Nat → St → Option (Int32 × St)} (E : En p m c s cX0_multiplyModels 9 yX0_multiplyModels.cls G A0) (hr : meth.sig.returnType = (some .boolean)) (hlk : meth.locks = false) (hK250 : ∀ (q84 : Nat) (σ83 : St) (H : Heap) (locs : List Loc) (ls : Array Slot), K250 q84 σ83 = some (r0, σ0) → Wo G skC A0 s σ83 H locs → lv_has ls 9 [(1, .ref (G.2.2.2 + q84))] → W p l e ({ frames := 2, cells := 0, slots := 0, locals := 60 } : Room) s m args below meth c H locs 0 0 (MQ below (QO (PoC G skC σ0) A0 (some (.int r0))) args s 0 0 A0) (F0 m 250 ls [])) : ∀ (n85 : Nat) (q80 : Nat) (q81 : Nat) (x82 : Int32) (σ79 : St) (H : Heap) (locs : List Loc) (ls : Array Slot), f_X0_multiplyModels_L207 K250 n85 q80 q81 x82 σ79 = some (r0, σ0) → Wo G skC A0 s σ79 H locs → lv_has ls 9 [(0, .ref (G.2.2.2 + q80)), (1, .ref (G.2.2.2 + q81)), (4, .int x82)] → W p l e ({ frames := 2, cells := 0, slots := 0, locals := 60 } : Room) s m args below meth c H locs 0 0 (MQ below (QO (PoC G skC σ0) A0 (some (.int r0))) args s 0 0 A0) (F0 m 207 ls []) := by
  intro n85
  induction n85 with
  | zero =>
    intro q80 q81 x82 σ79 H locs ls h hW hl
    rw [f_X0_multiplyModels_L207] at h
    cases h
  | succ n85 ih =>
    intro q80 q81 x82 σ79 H locs ls h hW hl
    rw [f_X0_multiplyModels_L207] at h
    refine lv_iload E.1 E.2.1 dX0_multiplyModels_207 (lv_at hl 2 rfl) ?_
    refine lv_bipush (v := (10 : Int32)) E.1 E.2.1 dX0_multiplyModels_209 (by decide) ?_
    refine lv_icmp_ge (tgt := 250) E.1 E.2.1 dX0_multiplyModels_211 (by decide) (fun g => ?_) (fun g => ?_)
    · have h := ifp h g
      exact hK250 _ _ _ _ _ h hW (lv_sub hl [1] rfl)
    · have h := ifn h g
      refine lv_aload_n E.1 E.2.1 dX0_multiplyModels_214 rfl (lv_at hl 1 rfl) ?_
      refine lv_iload E.1 E.2.1 dX0_multiplyModels_215 (lv_at hl 2 rfl) ?_
      refine lv_aload_n E.1 E.2.1 dX0_multiplyModels_217 rfl (lv_at hl 0 rfl) ?_
      obtain ⟨g86, h⟩ := gd_r h
      refine gf_X0_11 E hW g86 dX0_multiplyModels_218 ?_
      refine r_getsN E hW 0 (by decide) rfl kw_486 dX0_multiplyModels_221 (fun t87 Tt87 => ?_)
      refine lv_iload E.1 E.2.1 dX0_multiplyModels_224 (lv_at hl 2 rfl) ?_
      obtain ⟨g88, h⟩ := gd_r h
      refine r_tald E hW 0 Tt87 g88 dX0_multiplyModels_226 ?_
      refine lv_bipush (v := (7 : Int32)) E.1 E.2.1 dX0_multiplyModels_227 (by decide) ?_
      refine lv_imul E.1 E.2.1 dX0_multiplyModels_229 ?_
      refine r_getsN E hW 1 (by decide) rfl kw_488 dX0_multiplyModels_230 (fun t89 Tt89 => ?_)
      refine lv_iload E.1 E.2.1 dX0_multiplyModels_233 (lv_at hl 2 rfl) ?_
      obtain ⟨g90, h⟩ := gd_r h
      refine r_tald E hW 1 Tt89 g90 dX0_multiplyModels_235 ?_
      refine lv_iadd E.1 E.2.1 dX0_multiplyModels_236 ?_
      obtain ⟨g91, h⟩ := gd_r h
      refine r_lald E hW (pr_eq g91.1) g91.2 dX0_multiplyModels_237 ?_
      refine lv_ldc2 (v := (1000 : Int64)) E.1 E.2.1 E.2.2.2.1 (E.wd kw_595) dX0_multiplyModels_238 ?_
      obtain ⟨g92, h⟩ := gd_r h
      obtain ⟨_r, σ93, c94, h⟩ := obn_r h
      refine c_V (As := [.int x82, .long (σ79.2 (rC q80 0) ((((stL 0).getD x82.toNatClampNeg 0) * (7 : Int32)) + ((stL 1).getD x82.toNatClampNeg 0)).toNatClampNeg), .long (1000 : Int64)]) (rest := []) E hW (m_X2_putQuotient c94) g92 rfl kw_499 wv_X2_putQuotient yo_X2_putQuotient ⟨rfl, rfl⟩ ⟨(Nat.le_of_ble_eq_true rfl), (Nat.le_of_ble_eq_true rfl)⟩ (lv_size hl) (Nat.le_of_ble_eq_true rfl) ⟨(Nat.le_of_ble_eq_true rfl), (Nat.le_of_ble_eq_true rfl)⟩ rfl dX0_multiplyModels_241 (fun H locs hW => ?_)
      refine W.eq (g2 := F0 m 244 ls []) rfl ?_
      obtain ⟨x95, ex95⟩ : ∃ y : Int32, y = x82 + (1 : Int32) := ⟨_, rfl⟩
      have h := bnd_r ex95 h
      refine lv_iinc (v := x95) (lv' := [(4, .int x95), (0, .ref (G.2.2.2 + q80)), (1, .ref (G.2.2.2 + q81))]) E.1 E.2.1 dX0_multiplyModels_244 hl (k := 2) rfl (by rw [ex95]; rfl) (by decide) rfl (fun ls hl => ?_)
      refine lv_goto (tgt := 207) E.1 E.2.1 dX0_multiplyModels_247 (by decide) ?_
      exact ih _ _ _ _ _ _ _ h hW (lv_sub hl [1, 2, 0] rfl)
set_option maxHeartbeats 4000000 in
set_option maxRecDepth 100000 in
theorem m_X0_multiplyModels {l : Launch} {G : GP} {sz : Nat} {q0 : Nat} {q1 : Nat} {q2 : Nat} {q3 : Nat} {σ σ0 : St} {r0 : Int32} (h : f_X0_multiplyModels q0 q1 q2 q3 σ = some (r0, σ0)) : Met l yX0_multiplyModels [.code yX0_multiplyModels cX0_multiplyModels 9 (some .boolean)] ({ frames := 2, cells := 0, slots := 0, locals := 60 } : Room) (va_Pc [.ref (G.2.2.2 + q0), .ref (G.2.2.2 + q1), .ref (G.2.2.2 + q2), .ref (G.2.2.2 + q3)] (PreC G skC sz σ)) (QO (PoC G skC σ0) (Aw G.2.2.2 skC.1 sz) (some (.int r0))) 0 0 (Aw G.2.2.2 skC.1 sz) := by
  refine mkMet (by decide +kernel) (Nat.le_of_ble_eq_true rfl) skC_ok ?_
  intro p e s m below meth c ls E hW hl hr hlk
  have hl : lv_has ls 9 [(0, .ref (G.2.2.2 + q0)), (1, .ref (G.2.2.2 + q1)), (2, .ref (G.2.2.2 + q2)), (3, .ref (G.2.2.2 + q3))] := hl
  generalize Aw G.2.2.2 skC.1 s.heap.size = A0 at E hW ⊢
  generalize ([.ref (G.2.2.2 + q0), .ref (G.2.2.2 + q1), .ref (G.2.2.2 + q2), .ref (G.2.2.2 + q3)] : List Value).toArray = args
  unfold f_X0_multiplyModels at h
  refine lv_aload_n E.1 E.2.1 dX0_multiplyModels_0 rfl (lv_at hl 0 rfl) ?_
  refine lv_aload_n E.1 E.2.1 dX0_multiplyModels_1 rfl (lv_at hl 2 rfl) ?_
  refine lv_aload_n E.1 E.2.1 dX0_multiplyModels_2 rfl (lv_at hl 3 rfl) ?_
  obtain ⟨g1, h⟩ := gd_r h
  obtain ⟨_r, σ2, c3, h⟩ := obn_r h
  refine c_V (As := [.ref (G.2.2.2 + q2), .ref (G.2.2.2 + q3)]) (rest := []) E hW (m_X0_collectProducts c3) g1 rfl kw_580 wv_X0_collectProducts yo_X0_collectProducts ⟨rfl, rfl⟩ ⟨(Nat.le_of_ble_eq_true rfl), (Nat.le_of_ble_eq_true rfl)⟩ (lv_size hl) (Nat.le_of_ble_eq_true rfl) ⟨(Nat.le_of_ble_eq_true rfl), (Nat.le_of_ble_eq_true rfl)⟩ rfl dX0_multiplyModels_3 (fun H locs hW => ?_)
  refine W.eq (g2 := F0 m 6 ls []) rfl ?_
  refine lv_aload_n E.1 E.2.1 dX0_multiplyModels_6 rfl (lv_at hl 0 rfl) ?_
  refine lv_lconst (v := (0 : Int64)) E.1 E.2.1 dX0_multiplyModels_7 (by decide) ?_
  refine pf_X0_52 E hW g1 dX0_multiplyModels_8 (fun σ4 H locs eσ4 hW => ?_)
  have h := bnd_r eσ4 h
  refine lv_aload_n E.1 E.2.1 dX0_multiplyModels_11 rfl (lv_at hl 0 rfl) ?_
  refine lv_lconst (v := (0 : Int64)) E.1 E.2.1 dX0_multiplyModels_12 (by decide) ?_
  refine pf_X0_53 E hW g1 dX0_multiplyModels_13 (fun σ5 H locs eσ5 hW => ?_)
  have h := bnd_r eσ5 h
  refine lv_iconst (v := (0 : Int32)) E.1 E.2.1 dX0_multiplyModels_16 (by decide) ?_
  refine lv_istore (lv' := [(4, .int (0 : Int32)), (0, .ref (G.2.2.2 + q0)), (1, .ref (G.2.2.2 + q1)), (2, .ref (G.2.2.2 + q2)), (3, .ref (G.2.2.2 + q3))]) E.1 E.2.1 dX0_multiplyModels_17 hl (by decide) rfl (fun ls hl => ?_)
  refine L_X0_multiplyModels_19 E hr hlk ?_ _ _ _ _ _ _ _ _ _ _ h hW (lv_sub hl [1, 2, 3, 4, 0] rfl)
  · intro q13 q14 q15 q16 σ12 H locs ls h hW hl
    refine lv_aload_n E.1 E.2.1 dX0_multiplyModels_114 rfl (lv_at hl 0 rfl) ?_
    refine lv_aload_n E.1 E.2.1 dX0_multiplyModels_115 rfl (lv_at hl 2 rfl) ?_
    obtain ⟨g49, h⟩ := gd_r h
    obtain ⟨x51, σ50, c52, h⟩ := obn_r h
    refine c_V (As := []) (rest := [.ref (G.2.2.2 + q13)]) E hW (m_X2_spreadLow c52) g49 rfl kw_588 wv_X2_spreadLow yo_X2_spreadLow ⟨rfl, rfl⟩ ⟨(Nat.le_of_ble_eq_true rfl), (Nat.le_of_ble_eq_true rfl)⟩ (lv_size hl) (Nat.le_of_ble_eq_true rfl) ⟨(Nat.le_of_ble_eq_true rfl), (Nat.le_of_ble_eq_true rfl)⟩ rfl dX0_multiplyModels_116 (fun H locs hW => ?_)
    refine W.eq (g2 := F0 m 119 ls [.long x51, .ref (G.2.2.2 + q13)]) rfl ?_
    refine lv_aload_n E.1 E.2.1 dX0_multiplyModels_119 rfl (lv_at hl 2 rfl) ?_
    obtain ⟨x54, σ53, c55, h⟩ := obn_r h
    refine c_V (As := []) (rest := [.long x51, .ref (G.2.2.2 + q13)]) E hW (m_X2_spreadHigh c55) g49 rfl kw_589 wv_X2_spreadHigh yo_X2_spreadHigh ⟨rfl, rfl⟩ ⟨(Nat.le_of_ble_eq_true rfl), (Nat.le_of_ble_eq_true rfl)⟩ (lv_size hl) (Nat.le_of_ble_eq_true rfl) ⟨(Nat.le_of_ble_eq_true rfl), (Nat.le_of_ble_eq_true rfl)⟩ rfl dX0_multiplyModels_120 (fun H locs hW => ?_)
    refine W.eq (g2 := F0 m 123 ls [.long x54, .long x51, .ref (G.2.2.2 + q13)]) rfl ?_
    refine lv_aload_n E.1 E.2.1 dX0_multiplyModels_123 rfl (lv_at hl 3 rfl) ?_
    obtain ⟨g56, h⟩ := gd_r h
    refine gf_X0_37 E hW g56 dX0_multiplyModels_124 ?_
    refine lv_aload_n E.1 E.2.1 dX0_multiplyModels_127 rfl (lv_at hl 3 rfl) ?_
    refine gf_X0_41 E hW g56 dX0_multiplyModels_128 ?_
    obtain ⟨g57, h⟩ := gd_r h
    obtain ⟨_r, σ58, c59, h⟩ := obn_r h
    refine c_V (As := [.long x51, .long x54, .long (σ53.2 q16 1), .long (σ53.2 q16 2)]) (rest := []) E hW (m_X0_addIntervalProduct c59) g57 rfl kw_590 wv_X0_addIntervalProduct yo_X0_addIntervalProduct ⟨rfl, rfl⟩ ⟨(Nat.le_of_ble_eq_true rfl), (Nat.le_of_ble_eq_true rfl)⟩ (lv_size hl) (Nat.le_of_ble_eq_true rfl) ⟨(Nat.le_of_ble_eq_true rfl), (Nat.le_of_ble_eq_true rfl)⟩ rfl dX0_multiplyModels_131 (fun H locs hW => ?_)
    refine W.eq (g2 := F0 m 134 ls []) rfl ?_
    refine lv_aload_n E.1 E.2.1 dX0_multiplyModels_134 rfl (lv_at hl 0 rfl) ?_
    refine lv_aload_n E.1 E.2.1 dX0_multiplyModels_135 rfl (lv_at hl 2 rfl) ?_
    refine gf_X0_37 E hW g49 dX0_multiplyModels_136 ?_
    refine lv_aload_n E.1 E.2.1 dX0_multiplyModels_139 rfl (lv_at hl 2 rfl) ?_
    refine gf_X0_41 E hW g49 dX0_multiplyModels_140 ?_
    refine lv_aload_n E.1 E.2.1 dX0_multiplyModels_143 rfl (lv_at hl 3 rfl) ?_
    obtain ⟨x61, σ60, c62, h⟩ := obn_r h
    refine c_V (As := []) (rest := [.long (σ58.2 q15 2), .long (σ58.2 q15 1), .ref (G.2.2.2 + q13)]) E hW (m_X2_spreadLow c62) g56 rfl kw_588 wv_X2_spreadLow yo_X2_spreadLow ⟨rfl, rfl⟩ ⟨(Nat.le_of_ble_eq_true rfl), (Nat.le_of_ble_eq_true rfl)⟩ (lv_size hl) (Nat.le_of_ble_eq_true rfl) ⟨(Nat.le_of_ble_eq_true rfl), (Nat.le_of_ble_eq_true rfl)⟩ rfl dX0_multiplyModels_144 (fun H locs hW => ?_)
    refine W.eq (g2 := F0 m 147 ls [.long x61, .long (σ58.2 q15 2), .long (σ58.2 q15 1), .ref (G.2.2.2 + q13)]) rfl ?_
    refine lv_aload_n E.1 E.2.1 dX0_multiplyModels_147 rfl (lv_at hl 3 rfl) ?_
    obtain ⟨x64, σ63, c65, h⟩ := obn_r h
    refine c_V (As := []) (rest := [.long x61, .long (σ58.2 q15 2), .long (σ58.2 q15 1), .ref (G.2.2.2 + q13)]) E hW (m_X2_spreadHigh c65) g56 rfl kw_589 wv_X2_spreadHigh yo_X2_spreadHigh ⟨rfl, rfl⟩ ⟨(Nat.le_of_ble_eq_true rfl), (Nat.le_of_ble_eq_true rfl)⟩ (lv_size hl) (Nat.le_of_ble_eq_true rfl) ⟨(Nat.le_of_ble_eq_true rfl), (Nat.le_of_ble_eq_true rfl)⟩ rfl dX0_multiplyModels_148 (fun H locs hW => ?_)
    refine W.eq (g2 := F0 m 151 ls [.long x64, .long x61, .long (σ58.2 q15 2), .long (σ58.2 q15 1), .ref (G.2.2.2 + q13)]) rfl ?_
    obtain ⟨_r, σ66, c67, h⟩ := obn_r h
    refine c_V (As := [.long (σ58.2 q15 1), .long (σ58.2 q15 2), .long x61, .long x64]) (rest := []) E hW (m_X0_addIntervalProduct c67) g57 rfl kw_590 wv_X0_addIntervalProduct yo_X0_addIntervalProduct ⟨rfl, rfl⟩ ⟨(Nat.le_of_ble_eq_true rfl), (Nat.le_of_ble_eq_true rfl)⟩ (lv_size hl) (Nat.le_of_ble_eq_true rfl) ⟨(Nat.le_of_ble_eq_true rfl), (Nat.le_of_ble_eq_true rfl)⟩ rfl dX0_multiplyModels_151 (fun H locs hW => ?_)
    refine W.eq (g2 := F0 m 154 ls []) rfl ?_
    refine lv_aload_n E.1 E.2.1 dX0_multiplyModels_154 rfl (lv_at hl 0 rfl) ?_
    refine lv_aload_n E.1 E.2.1 dX0_multiplyModels_155 rfl (lv_at hl 2 rfl) ?_
    refine gf_X0_37 E hW g49 dX0_multiplyModels_156 ?_
    refine lv_aload_n E.1 E.2.1 dX0_multiplyModels_159 rfl (lv_at hl 2 rfl) ?_
    refine gf_X0_41 E hW g49 dX0_multiplyModels_160 ?_
    refine lv_aload_n E.1 E.2.1 dX0_multiplyModels_163 rfl (lv_at hl 3 rfl) ?_
    refine gf_X0_37 E hW g56 dX0_multiplyModels_164 ?_
    refine lv_aload_n E.1 E.2.1 dX0_multiplyModels_167 rfl (lv_at hl 3 rfl) ?_
    refine gf_X0_41 E hW g56 dX0_multiplyModels_168 ?_
    obtain ⟨_r, σ68, c69, h⟩ := obn_r h
    refine c_V (As := [.long (σ66.2 q15 1), .long (σ66.2 q15 2), .long (σ66.2 q16 1), .long (σ66.2 q16 2)]) (rest := []) E hW (m_X0_addIntervalProduct c69) g57 rfl kw_590 wv_X0_addIntervalProduct yo_X0_addIntervalProduct ⟨rfl, rfl⟩ ⟨(Nat.le_of_ble_eq_true rfl), (Nat.le_of_ble_eq_true rfl)⟩ (lv_size hl) (Nat.le_of_ble_eq_true rfl) ⟨(Nat.le_of_ble_eq_true rfl), (Nat.le_of_ble_eq_true rfl)⟩ rfl dX0_multiplyModels_171 (fun H locs hW => ?_)
    refine W.eq (g2 := F0 m 174 ls []) rfl ?_
    refine lv_aload_n E.1 E.2.1 dX0_multiplyModels_174 rfl (lv_at hl 1 rfl) ?_
    refine lv_aload_n E.1 E.2.1 dX0_multiplyModels_175 rfl (lv_at hl 0 rfl) ?_
    refine gf_X0_52 E hW g57 dX0_multiplyModels_176 ?_
    refine lv_ldc2 (v := (1000 : Int64)) E.1 E.2.1 E.2.2.2.1 (E.wd kw_595) dX0_multiplyModels_179 ?_
    obtain ⟨x71, σ70, c72, h⟩ := obn_r h
    refine c_S (As := [.long (σ68.2 q13 1), .long (1000 : Int64)]) (rest := [.ref (G.2.2.2 + q14)]) E hW (m_J9_floorDiv_f86c9 c72) kw_520 ws_J9_floorDiv_f86c9 yo_J9_floorDiv_f86c9 ⟨rfl, rfl⟩ ⟨(Nat.le_of_ble_eq_true rfl), (Nat.le_of_ble_eq_true rfl)⟩ (lv_size hl) (Nat.le_of_ble_eq_true rfl) ⟨(Nat.le_of_ble_eq_true rfl), (Nat.le_of_ble_eq_true rfl)⟩ rfl dX0_multiplyModels_182 (fun H locs hW => ?_)
    refine W.eq (g2 := F0 m 185 ls [.long x71, .ref (G.2.2.2 + q14)]) rfl ?_
    obtain ⟨g73, h⟩ := gd_r h
    refine pf_X0_37 E hW g73 dX0_multiplyModels_185 (fun σ74 H locs eσ74 hW => ?_)
    have h := bnd_r eσ74 h
    refine lv_aload_n E.1 E.2.1 dX0_multiplyModels_188 rfl (lv_at hl 1 rfl) ?_
    refine lv_aload_n E.1 E.2.1 dX0_multiplyModels_189 rfl (lv_at hl 0 rfl) ?_
    refine gf_X0_53 E hW g57 dX0_multiplyModels_190 ?_
    refine lv_lneg E.1 E.2.1 dX0_multiplyModels_193 ?_
    refine lv_ldc2 (v := (1000 : Int64)) E.1 E.2.1 E.2.2.2.1 (E.wd kw_595) dX0_multiplyModels_194 ?_
    obtain ⟨x76, σ75, c77, h⟩ := obn_r h
    refine c_S (As := [.long (-(σ74.2 q13 2)), .long (1000 : Int64)]) (rest := [.ref (G.2.2.2 + q14)]) E hW (m_J9_floorDiv_f86c9 c77) kw_520 ws_J9_floorDiv_f86c9 yo_J9_floorDiv_f86c9 ⟨rfl, rfl⟩ ⟨(Nat.le_of_ble_eq_true rfl), (Nat.le_of_ble_eq_true rfl)⟩ (lv_size hl) (Nat.le_of_ble_eq_true rfl) ⟨(Nat.le_of_ble_eq_true rfl), (Nat.le_of_ble_eq_true rfl)⟩ rfl dX0_multiplyModels_197 (fun H locs hW => ?_)
    refine W.eq (g2 := F0 m 200 ls [.long x76, .ref (G.2.2.2 + q14)]) rfl ?_
    refine lv_lneg E.1 E.2.1 dX0_multiplyModels_200 ?_
    refine pf_X0_41 E hW g73 dX0_multiplyModels_201 (fun σ78 H locs eσ78 hW => ?_)
    have h := bnd_r eσ78 h
    refine lv_iconst (v := (0 : Int32)) E.1 E.2.1 dX0_multiplyModels_204 (by decide) ?_
    refine lv_istore (lv' := [(4, .int (0 : Int32)), (0, .ref (G.2.2.2 + q13)), (1, .ref (G.2.2.2 + q14)), (2, .ref (G.2.2.2 + q15)), (3, .ref (G.2.2.2 + q16))]) E.1 E.2.1 dX0_multiplyModels_205 hl (by decide) rfl (fun ls hl => ?_)
    refine L_X0_multiplyModels_207 E hr hlk ?_ _ _ _ _ _ _ _ _ h hW (lv_sub hl [1, 2, 0] rfl)
    · intro q84 σ83 H locs ls h hW hl
      refine lv_aload_n E.1 E.2.1 dX0_multiplyModels_250 rfl (lv_at hl 0 rfl) ?_
      obtain ⟨g96, h⟩ := gd_r h
      obtain ⟨x98, σ97, c99, h⟩ := obn_r h
      refine c_V (As := []) (rest := []) E hW (m_X2_fits c99) g96 rfl kw_526 wv_X2_fits yo_X2_fits ⟨rfl, rfl⟩ ⟨(Nat.le_of_ble_eq_true rfl), (Nat.le_of_ble_eq_true rfl)⟩ (lv_size hl) (Nat.le_of_ble_eq_true rfl) ⟨(Nat.le_of_ble_eq_true rfl), (Nat.le_of_ble_eq_true rfl)⟩ rfl dX0_multiplyModels_251 (fun H locs hW => ?_)
      refine W.eq (g2 := F0 m 254 ls [.int x98]) rfl ?_
      obtain ⟨g100, h⟩ := gd_r h
      exact e_z E hW hr hlk g100 h dX0_multiplyModels_254
set_option maxHeartbeats 4000000 in
set_option maxRecDepth 100000 in
theorem m_X2_staysInSquare {l : Launch} {G : GP} {sz : Nat} {q0 : Nat} {σ σ0 : St} {r0 : Int32} (h : f_X2_staysInSquare q0 σ = some (r0, σ0)) : Met l yX2_staysInSquare [.code yX2_staysInSquare cX2_staysInSquare 1 (some .boolean)] ({ frames := 2, cells := 0, slots := 0, locals := 47 } : Room) (va_Pc [.ref (G.2.2.2 + q0)] (PreC G skC sz σ)) (QO (PoC G skC σ0) (Aw G.2.2.2 skC.1 sz) (some (.int r0))) 0 0 (Aw G.2.2.2 skC.1 sz) := by
  refine mkMet (by decide +kernel) (Nat.le_of_ble_eq_true rfl) skC_ok ?_
  intro p e s m below meth c ls E hW hl hr hlk
  have hl : lv_has ls 1 [(0, .ref (G.2.2.2 + q0))] := hl
  generalize Aw G.2.2.2 skC.1 s.heap.size = A0 at E hW ⊢
  generalize ([.ref (G.2.2.2 + q0)] : List Value).toArray = args
  unfold f_X2_staysInSquare at h
  refine lv_aload_n E.1 E.2.1 dX2_staysInSquare_0 rfl (lv_at hl 0 rfl) ?_
  obtain ⟨g1, h⟩ := gd_r h
  obtain ⟨x3, σ2, c4, h⟩ := obn_r h
  refine c_V (As := []) (rest := []) E hW (m_X2_spreadLow c4) g1 rfl kw_565 wv_X2_spreadLow yo_X2_spreadLow ⟨rfl, rfl⟩ ⟨(Nat.le_of_ble_eq_true rfl), (Nat.le_of_ble_eq_true rfl)⟩ (lv_size hl) (Nat.le_of_ble_eq_true rfl) ⟨(Nat.le_of_ble_eq_true rfl), (Nat.le_of_ble_eq_true rfl)⟩ rfl dX2_staysInSquare_1 (fun H locs hW => ?_)
  refine W.eq (g2 := F0 m 4 ls [.long x3]) rfl ?_
  refine lv_aload_n E.1 E.2.1 dX2_staysInSquare_4 rfl (lv_at hl 0 rfl) ?_
  refine gf_X2_21 E hW g1 dX2_staysInSquare_5 ?_
  refine lv_ladd E.1 E.2.1 dX2_staysInSquare_8 ?_
  refine lv_ldc2 (v := (-1000 : Int64)) E.1 E.2.1 E.2.2.2.1 (E.wd kw_570) dX2_staysInSquare_9 ?_
  refine r_lc_lt E dX2_staysInSquare_12 dX2_staysInSquare_13 (tgt := 36) (by decide) (fun g => ?_) (fun g => ?_)
  · have h := ifp h g
    refine lv_iconst (v := (0 : Int32)) E.1 E.2.1 dX2_staysInSquare_36 (by decide) ?_
    exact e_z E hW hr hlk (by decide) h dX2_staysInSquare_37
  · have h := ifn h g
    refine lv_aload_n E.1 E.2.1 dX2_staysInSquare_16 rfl (lv_at hl 0 rfl) ?_
    obtain ⟨x6, σ5, c7, h⟩ := obn_r h
    refine c_V (As := []) (rest := []) E hW (m_X2_spreadHigh c7) g1 rfl kw_571 wv_X2_spreadHigh yo_X2_spreadHigh ⟨rfl, rfl⟩ ⟨(Nat.le_of_ble_eq_true rfl), (Nat.le_of_ble_eq_true rfl)⟩ (lv_size hl) (Nat.le_of_ble_eq_true rfl) ⟨(Nat.le_of_ble_eq_true rfl), (Nat.le_of_ble_eq_true rfl)⟩ rfl dX2_staysInSquare_17 (fun H locs hW => ?_)
    refine W.eq (g2 := F0 m 20 ls [.long x6]) rfl ?_
    refine lv_aload_n E.1 E.2.1 dX2_staysInSquare_20 rfl (lv_at hl 0 rfl) ?_
    refine gf_X2_25 E hW g1 dX2_staysInSquare_21 ?_
    refine lv_ladd E.1 E.2.1 dX2_staysInSquare_24 ?_
    refine lv_ldc2 (v := (1000 : Int64)) E.1 E.2.1 E.2.2.2.1 (E.wd kw_455) dX2_staysInSquare_25 ?_
    refine r_lc_gt E dX2_staysInSquare_28 dX2_staysInSquare_29 (tgt := 36) (by decide) (fun g => ?_) (fun g => ?_)
    · have h := ifp h g
      refine lv_iconst (v := (0 : Int32)) E.1 E.2.1 dX2_staysInSquare_36 (by decide) ?_
      exact e_z E hW hr hlk (by decide) h dX2_staysInSquare_37
    · have h := ifn h g
      refine lv_iconst (v := (1 : Int32)) E.1 E.2.1 dX2_staysInSquare_32 (by decide) ?_
      refine lv_goto (tgt := 37) E.1 E.2.1 dX2_staysInSquare_33 (by decide) ?_
      exact e_z E hW hr hlk (by decide) h dX2_staysInSquare_37
set_option maxHeartbeats 4000000 in
set_option maxRecDepth 100000 in
theorem m_X2_becomeConstant {l : Launch} {G : GP} {sz : Nat} {q0 : Nat} {a1 : Int64} {σ σ0 : St} {r0 : Unit} (h : f_X2_becomeConstant q0 a1 σ = some (r0, σ0)) : Met l yX2_becomeConstant [.code yX2_becomeConstant cX2_becomeConstant 3 none] ({ frames := 1, cells := 0, slots := 0, locals := 24 } : Room) (va_Pc [.ref (G.2.2.2 + q0), .long a1] (PreC G skC sz σ)) (QO (PoC G skC σ0) (Aw G.2.2.2 skC.1 sz) none) 0 0 (Aw G.2.2.2 skC.1 sz) := by
  refine mkMet (by decide +kernel) (Nat.le_of_ble_eq_true rfl) skC_ok ?_
  intro p e s m below meth c ls E hW hl hr hlk
  have hl : lv_has ls 3 [(0, .ref (G.2.2.2 + q0)), (1, .long a1)] := hl
  generalize Aw G.2.2.2 skC.1 s.heap.size = A0 at E hW ⊢
  generalize ([.ref (G.2.2.2 + q0), .long a1] : List Value).toArray = args
  unfold f_X2_becomeConstant at h
  refine lv_aload_n E.1 E.2.1 dX2_becomeConstant_0 rfl (lv_at hl 0 rfl) ?_
  obtain ⟨g1, h⟩ := gd_r h
  refine gf_X2_9 E hW g1 dX2_becomeConstant_1 ?_
  refine lv_lconst (v := (0 : Int64)) E.1 E.2.1 dX2_becomeConstant_4 (by decide) ?_
  obtain ⟨_r, σ2, c3, h⟩ := obn_r h
  refine c_S (As := [.ref (G.2.2.2 + (rC q0 0)), .long (0 : Int64)]) (rest := []) E hW (m_J7_fill_d0a16 c3) kw_452 ws_J7_fill_d0a16 yo_J7_fill_d0a16 ⟨rfl, rfl⟩ ⟨(Nat.le_of_ble_eq_true rfl), (Nat.le_of_ble_eq_true rfl)⟩ (lv_size hl) (Nat.le_of_ble_eq_true rfl) ⟨(Nat.le_of_ble_eq_true rfl), (Nat.le_of_ble_eq_true rfl)⟩ rfl dX2_becomeConstant_5 (fun H locs hW => ?_)
  refine W.eq (g2 := F0 m 8 ls []) rfl ?_
  refine lv_aload_n E.1 E.2.1 dX2_becomeConstant_8 rfl (lv_at hl 0 rfl) ?_
  refine gf_X2_9 E hW g1 dX2_becomeConstant_9 ?_
  refine lv_iconst (v := (0 : Int32)) E.1 E.2.1 dX2_becomeConstant_12 (by decide) ?_
  refine lv_lload_n E.1 E.2.1 dX2_becomeConstant_13 rfl (lv_at hl 1 rfl) ?_
  obtain ⟨g4, h⟩ := gd_r h
  refine r_last E hW (pr_eq g4.1) g4.2 dX2_becomeConstant_14 (fun σ5 H locs eσ5 hW => ?_)
  have h := bnd_r eσ5 h
  refine lv_aload_n E.1 E.2.1 dX2_becomeConstant_15 rfl (lv_at hl 0 rfl) ?_
  refine lv_lconst (v := (0 : Int64)) E.1 E.2.1 dX2_becomeConstant_16 (by decide) ?_
  refine pf_X2_21 E hW g1 dX2_becomeConstant_17 (fun σ6 H locs eσ6 hW => ?_)
  have h := bnd_r eσ6 h
  refine lv_aload_n E.1 E.2.1 dX2_becomeConstant_20 rfl (lv_at hl 0 rfl) ?_
  refine lv_lconst (v := (0 : Int64)) E.1 E.2.1 dX2_becomeConstant_21 (by decide) ?_
  refine pf_X2_25 E hW g1 dX2_becomeConstant_22 (fun σ7 H locs eσ7 hW => ?_)
  have h := bnd_r eσ7 h
  exact e_v E hW hr hlk h dX2_becomeConstant_25
set_option maxHeartbeats 4000000 in
set_option maxRecDepth 100000 in
theorem m_X2_copyFrom {l : Launch} {G : GP} {sz : Nat} {q0 : Nat} {q1 : Nat} {σ σ0 : St} {r0 : Unit} (h : f_X2_copyFrom q0 q1 σ = some (r0, σ0)) : Met l yX2_copyFrom [.code yX2_copyFrom cX2_copyFrom 2 none] ({ frames := 1, cells := 0, slots := 0, locals := 60 } : Room) (va_Pc [.ref (G.2.2.2 + q0), .ref (G.2.2.2 + q1)] (PreC G skC sz σ)) (QO (PoC G skC σ0) (Aw G.2.2.2 skC.1 sz) none) 0 0 (Aw G.2.2.2 skC.1 sz) := by
  refine mkMet (by decide +kernel) (Nat.le_of_ble_eq_true rfl) skC_ok ?_
  intro p e s m below meth c ls E hW hl hr hlk
  have hl : lv_has ls 2 [(0, .ref (G.2.2.2 + q0)), (1, .ref (G.2.2.2 + q1))] := hl
  generalize Aw G.2.2.2 skC.1 s.heap.size = A0 at E hW ⊢
  generalize ([.ref (G.2.2.2 + q0), .ref (G.2.2.2 + q1)] : List Value).toArray = args
  unfold f_X2_copyFrom at h
  refine lv_aload_n E.1 E.2.1 dX2_copyFrom_0 rfl (lv_at hl 1 rfl) ?_
  obtain ⟨g1, h⟩ := gd_r h
  refine gf_X2_9 E hW g1 dX2_copyFrom_1 ?_
  refine lv_iconst (v := (0 : Int32)) E.1 E.2.1 dX2_copyFrom_4 (by decide) ?_
  refine lv_aload_n E.1 E.2.1 dX2_copyFrom_5 rfl (lv_at hl 0 rfl) ?_
  obtain ⟨g2, h⟩ := gd_r h
  refine gf_X2_9 E hW g2 dX2_copyFrom_6 ?_
  refine lv_iconst (v := (0 : Int32)) E.1 E.2.1 dX2_copyFrom_9 (by decide) ?_
  refine lv_bipush (v := (10 : Int32)) E.1 E.2.1 dX2_copyFrom_10 (by decide) ?_
  obtain ⟨g3, h⟩ := gd_r h
  refine r_copy E hW (lv_size hl) (pr_eq g3.1) (pr_eq g3.2.1) g3.2.2 ⟨kw_256, kw_258, kw_257, kw_18⟩ ⟨(Nat.le_of_ble_eq_true rfl), (Nat.le_of_ble_eq_true rfl)⟩ dX2_copyFrom_12 (fun σ4 H locs eσ4 hW => ?_)
  have h := bnd_r eσ4 h
  refine lv_aload_n E.1 E.2.1 dX2_copyFrom_15 rfl (lv_at hl 0 rfl) ?_
  refine lv_aload_n E.1 E.2.1 dX2_copyFrom_16 rfl (lv_at hl 1 rfl) ?_
  refine gf_X2_21 E hW g1 dX2_copyFrom_17 ?_
  refine pf_X2_21 E hW g2 dX2_copyFrom_20 (fun σ5 H locs eσ5 hW => ?_)
  have h := bnd_r eσ5 h
  refine lv_aload_n E.1 E.2.1 dX2_copyFrom_23 rfl (lv_at hl 0 rfl) ?_
  refine lv_aload_n E.1 E.2.1 dX2_copyFrom_24 rfl (lv_at hl 1 rfl) ?_
  refine gf_X2_25 E hW g1 dX2_copyFrom_25 ?_
  refine pf_X2_25 E hW g2 dX2_copyFrom_28 (fun σ6 H locs eσ6 hW => ?_)
  have h := bnd_r eσ6 h
  exact e_v E hW hr hlk h dX2_copyFrom_31
set_option maxHeartbeats 4000000 in
set_option maxRecDepth 100000 in
theorem L_X0_composeModels_64 {p : Program} {l : Launch} {e : Env} {s : State} {m : MethodId} {args : Array Value} {below : List Frame} {meth : Method} {c : Code} {G : GP} {A0 : Nat → Prop} {σ0 : St} {r0 : Int32} {K122 : Nat → Nat → Nat → Nat → Nat → Int32 → St → Option (Int32 × St)} (E : En p m c s cX0_composeModels 7 yX0_composeModels.cls G A0) (hr : meth.sig.returnType = (some .boolean)) (hlk : meth.locks = false) (hK122 : ∀ (q41 : Nat) (q42 : Nat) (q43 : Nat) (q44 : Nat) (q45 : Nat) (x46 : Int32) (σ40 : St) (H : Heap) (locs : List Loc) (ls : Array Slot), K122 q41 q42 q43 q44 q45 x46 σ40 = some (r0, σ0) → Wo G skC A0 s σ40 H locs → lv_has ls 7 [(0, .ref (G.2.2.2 + q41)), (1, .ref (G.2.2.2 + q42)), (2, .ref (G.2.2.2 + q43)), (3, .ref (G.2.2.2 + q44)), (4, .ref (G.2.2.2 + q45)), (5, .int x46)] → W p l e ({ frames := 3, cells := 0, slots := 0, locals := 88 } : Room) s m args below meth c H locs 0 0 (MQ below (QO (PoC G skC σ0) A0 (some (.int r0))) args s 0 0 A0) (F0 m 122 ls [])) : ∀ (n47 : Nat) (q33 : Nat) (q34 : Nat) (q35 : Nat) (q36 : Nat) (q37 : Nat) (x38 : Int32) (x39 : Int32) (σ32 : St) (H : Heap) (locs : List Loc) (ls : Array Slot), f_X0_composeModels_L64 K122 n47 q33 q34 q35 q36 q37 x38 x39 σ32 = some (r0, σ0) → Wo G skC A0 s σ32 H locs → lv_has ls 7 [(0, .ref (G.2.2.2 + q33)), (1, .ref (G.2.2.2 + q34)), (2, .ref (G.2.2.2 + q35)), (3, .ref (G.2.2.2 + q36)), (4, .ref (G.2.2.2 + q37)), (5, .int x38), (6, .int x39)] → W p l e ({ frames := 3, cells := 0, slots := 0, locals := 88 } : Room) s m args below meth c H locs 0 0 (MQ below (QO (PoC G skC σ0) A0 (some (.int r0))) args s 0 0 A0) (F0 m 64 ls []) := by
  intro n47
  induction n47 with
  | zero =>
    intro q33 q34 q35 q36 q37 x38 x39 σ32 H locs ls h hW hl
    rw [f_X0_composeModels_L64] at h
    cases h
  | succ n47 ih =>
    intro q33 q34 q35 q36 q37 x38 x39 σ32 H locs ls h hW hl
    rw [f_X0_composeModels_L64] at h
    refine lv_iload E.1 E.2.1 dX0_composeModels_64 (lv_at hl 6 rfl) ?_
    refine r_getsN E hW 0 (by decide) rfl kw_486 dX0_composeModels_66 (fun t48 Tt48 => ?_)
    refine lv_iload E.1 E.2.1 dX0_composeModels_69 (lv_at hl 5 rfl) ?_
    obtain ⟨g49, h⟩ := gd_r h
    refine r_tald E hW 0 Tt48 g49 dX0_composeModels_71 ?_
    refine r_getsN E hW 1 (by decide) rfl kw_488 dX0_composeModels_72 (fun t50 Tt50 => ?_)
    refine lv_iload E.1 E.2.1 dX0_composeModels_75 (lv_at hl 5 rfl) ?_
    obtain ⟨g51, h⟩ := gd_r h
    refine r_tald E hW 1 Tt50 g51 dX0_composeModels_77 ?_
    refine lv_iadd E.1 E.2.1 dX0_composeModels_78 ?_
    refine lv_icmp_ge (tgt := 122) E.1 E.2.1 dX0_composeModels_79 (by decide) (fun g => ?_) (fun g => ?_)
    · have h := ifp h g
      exact hK122 _ _ _ _ _ _ _ _ _ _ h hW (lv_sub hl [0, 1, 2, 3, 4, 5] rfl)
    · have h := ifn h g
      refine lv_aload_n E.1 E.2.1 dX0_composeModels_82 rfl (lv_at hl 0 rfl) ?_
      refine lv_aload_n E.1 E.2.1 dX0_composeModels_83 rfl (lv_at hl 0 rfl) ?_
      obtain ⟨g52, h⟩ := gd_r h
      refine gf_X0_18 E hW g52 dX0_composeModels_84 ?_
      refine lv_aload_n E.1 E.2.1 dX0_composeModels_87 rfl (lv_at hl 0 rfl) ?_
      refine gf_X0_18 E hW g52 dX0_composeModels_88 ?_
      refine lv_iload E.1 E.2.1 dX0_composeModels_91 (lv_at hl 6 rfl) ?_
      refine r_getsN E hW 0 (by decide) rfl kw_486 dX0_composeModels_93 (fun t53 Tt53 => ?_)
      refine lv_iload E.1 E.2.1 dX0_composeModels_96 (lv_at hl 5 rfl) ?_
      refine r_tald E hW 0 Tt53 g49 dX0_composeModels_98 ?_
      obtain ⟨J66, eJ66, h⟩ := bnd_x h
      have hJ66 : ∀ (q55 : Nat) (q56 : Nat) (q57 : Nat) (q58 : Nat) (q59 : Nat) (x60 : Int32) (x61 : Int32) (q62 : Nat) (q63 : Nat) (q64 : Nat) (q65 : Nat) (σ54 : St) (H : Heap) (locs : List Loc) (ls : Array Slot), J66 q55 q56 q57 q58 q59 x60 x61 q62 q63 q64 q65 σ54 = some (r0, σ0) → Wo G skC A0 s σ54 H locs → lv_has ls 7 [(0, .ref (G.2.2.2 + q55)), (1, .ref (G.2.2.2 + q56)), (2, .ref (G.2.2.2 + q57)), (3, .ref (G.2.2.2 + q58)), (4, .ref (G.2.2.2 + q59)), (5, .int x60), (6, .int x61)] → W p l e ({ frames := 3, cells := 0, slots := 0, locals := 88 } : Room) s m args below meth c H locs 0 0 (MQ below (QO (PoC G skC σ0) A0 (some (.int r0))) args s 0 0 A0) (F0 m 108 ls [.ref (G.2.2.2 + q62), .ref (G.2.2.2 + q63), .ref (G.2.2.2 + q64), .ref (G.2.2.2 + q65)]) := by
        intro q55 q56 q57 q58 q59 x60 x61 q62 q63 q64 q65 σ54 H locs ls h hW hl
        have h := jr12 eJ66 h
        obtain ⟨g67, h⟩ := gd_r h
        obtain ⟨x69, σ68, c70, h⟩ := obn_r h
        refine c_V (As := [.ref (G.2.2.2 + q64), .ref (G.2.2.2 + q63), .ref (G.2.2.2 + q62)]) (rest := []) E hW (m_X0_multiplyModels c70) g67 rfl kw_576 wv_X0_multiplyModels yo_X0_multiplyModels ⟨rfl, rfl⟩ ⟨(Nat.le_of_ble_eq_true rfl), (Nat.le_of_ble_eq_true rfl)⟩ (lv_size hl) (Nat.le_of_ble_eq_true rfl) ⟨(Nat.le_of_ble_eq_true rfl), (Nat.le_of_ble_eq_true rfl)⟩ rfl dX0_composeModels_108 (fun H locs hW => ?_)
        refine W.eq (g2 := F0 m 111 ls [.int x69]) rfl ?_
        refine lv_if_ne (tgt := 116) E.1 E.2.1 dX0_composeModels_111 (by decide) (fun g => ?_) (fun g => ?_)
        · have h := ifn h g
          obtain ⟨x71, ex71⟩ : ∃ y : Int32, y = x61 + (1 : Int32) := ⟨_, rfl⟩
          have h := bnd_r ex71 h
          refine lv_iinc (v := x71) (lv' := [(6, .int x71), (0, .ref (G.2.2.2 + q55)), (1, .ref (G.2.2.2 + q56)), (2, .ref (G.2.2.2 + q57)), (3, .ref (G.2.2.2 + q58)), (4, .ref (G.2.2.2 + q59)), (5, .int x60)]) E.1 E.2.1 dX0_composeModels_116 hl (k := 6) rfl (by rw [ex71]; rfl) (by decide) rfl (fun ls hl => ?_)
          refine lv_goto (tgt := 64) E.1 E.2.1 dX0_composeModels_119 (by decide) ?_
          exact ih _ _ _ _ _ _ _ _ _ _ _ h hW (lv_sub hl [1, 2, 3, 4, 5, 6, 0] rfl)
        · have h := ifp h g
          refine lv_iconst (v := (0 : Int32)) E.1 E.2.1 dX0_composeModels_114 (by decide) ?_
          exact e_z E hW hr hlk (by decide) h dX0_composeModels_115
      refine lv_icmp_ge (tgt := 106) E.1 E.2.1 dX0_composeModels_99 (by decide) (fun g => ?_) (fun g => ?_)
      · have h := ifp h g
        refine lv_aload E.1 E.2.1 dX0_composeModels_106 (lv_at hl 4 rfl) ?_
        exact hJ66 _ _ _ _ _ _ _ _ _ _ _ _ _ _ _ h hW (lv_sub hl [0, 1, 2, 3, 4, 5, 6] rfl)
      · have h := ifn h g
        refine lv_aload_n E.1 E.2.1 dX0_composeModels_102 rfl (lv_at hl 3 rfl) ?_
        refine lv_goto (tgt := 108) E.1 E.2.1 dX0_composeModels_103 (by decide) ?_
        exact hJ66 _ _ _ _ _ _ _ _ _ _ _ _ _ _ _ h hW (lv_sub hl [0, 1, 2, 3, 4, 5, 6] rfl)
set_option maxHeartbeats 4000000 in
set_option maxRecDepth 100000 in
theorem L_X0_composeModels_28 {p : Program} {l : Launch} {e : Env} {s : State} {m : MethodId} {args : Array Value} {below : List Frame} {meth : Method} {c : Code} {G : GP} {A0 : Nat → Prop} {σ0 : St} {r0 : Int32} {K149 : Nat → Nat → Nat → St → Option (Int32 × St)} (E : En p m c s cX0_composeModels 7 yX0_composeModels.cls G A0) (hr : meth.sig.returnType = (some .boolean)) (hlk : meth.locks = false) (hK149 : ∀ (q21 : Nat) (q22 : Nat) (q23 : Nat) (σ20 : St) (H : Heap) (locs : List Loc) (ls : Array Slot), K149 q21 q22 q23 σ20 = some (r0, σ0) → Wo G skC A0 s σ20 H locs → lv_has ls 7 [(0, .ref (G.2.2.2 + q21)), (1, .ref (G.2.2.2 + q22)), (2, .ref (G.2.2.2 + q23))] → W p l e ({ frames := 3, cells := 0, slots := 0, locals := 88 } : Room) s m args below meth c H locs 0 0 (MQ below (QO (PoC G skC σ0) A0 (some (.int r0))) args s 0 0 A0) (F0 m 149 ls [])) : ∀ (n24 : Nat) (q14 : Nat) (q15 : Nat) (q16 : Nat) (q17 : Nat) (q18 : Nat) (x19 : Int32) (σ13 : St) (H : Heap) (locs : List Loc) (ls : Array Slot), f_X0_composeModels_L28 K149 n24 q14 q15 q16 q17 q18 x19 σ13 = some (r0, σ0) → Wo G skC A0 s σ13 H locs → lv_has ls 7 [(0, .ref (G.2.2.2 + q14)), (1, .ref (G.2.2.2 + q15)), (2, .ref (G.2.2.2 + q16)), (3, .ref (G.2.2.2 + q17)), (4, .ref (G.2.2.2 + q18)), (5, .int x19)] → W p l e ({ frames := 3, cells := 0, slots := 0, locals := 88 } : Room) s m args below meth c H locs 0 0 (MQ below (QO (PoC G skC σ0) A0 (some (.int r0))) args s 0 0 A0) (F0 m 28 ls []) := by
  intro n24
  induction n24 with
  | zero =>
    intro q14 q15 q16 q17 q18 x19 σ13 H locs ls h hW hl
    rw [f_X0_composeModels_L28] at h
    cases h
  | succ n24 ih =>
    intro q14 q15 q16 q17 q18 x19 σ13 H locs ls h hW hl
    rw [f_X0_composeModels_L28] at h
    refine lv_iload E.1 E.2.1 dX0_composeModels_28 (lv_at hl 5 rfl) ?_
    refine lv_bipush (v := (10 : Int32)) E.1 E.2.1 dX0_composeModels_30 (by decide) ?_
    refine lv_icmp_ge (tgt := 149) E.1 E.2.1 dX0_composeModels_32 (by decide) (fun g => ?_) (fun g => ?_)
    · have h := ifp h g
      exact hK149 _ _ _ _ _ _ _ h hW (lv_sub hl [0, 1, 2] rfl)
    · have h := ifn h g
      refine lv_aload_n E.1 E.2.1 dX0_composeModels_35 rfl (lv_at hl 2 rfl) ?_
      obtain ⟨g25, h⟩ := gd_r h
      refine gf_X0_34 E hW g25 dX0_composeModels_36 ?_
      refine lv_iload E.1 E.2.1 dX0_composeModels_39 (lv_at hl 5 rfl) ?_
      obtain ⟨g26, h⟩ := gd_r h
      refine r_lald E hW (pr_eq g26.1) g26.2 dX0_composeModels_41 ?_
      refine lv_lconst (v := (0 : Int64)) E.1 E.2.1 dX0_composeModels_42 (by decide) ?_
      refine r_lc_eq E dX0_composeModels_43 dX0_composeModels_44 (tgt := 143) (by decide) (fun g => ?_) (fun g => ?_)
      · have h := ifp h g
        obtain ⟨x27, ex27⟩ : ∃ y : Int32, y = x19 + (1 : Int32) := ⟨_, rfl⟩
        have h := bnd_r ex27 h
        refine lv_iinc (v := x27) (lv' := [(5, .int x27), (0, .ref (G.2.2.2 + q14)), (1, .ref (G.2.2.2 + q15)), (2, .ref (G.2.2.2 + q16)), (3, .ref (G.2.2.2 + q17)), (4, .ref (G.2.2.2 + q18))]) E.1 E.2.1 dX0_composeModels_143 hl (k := 5) rfl (by rw [ex27]; rfl) (by decide) rfl (fun ls hl => ?_)
        refine lv_goto (tgt := 28) E.1 E.2.1 dX0_composeModels_146 (by decide) ?_
        exact ih _ _ _ _ _ _ _ _ _ _ h hW (lv_sub hl [1, 2, 3, 4, 5, 0] rfl)
      · have h := ifn h g
        refine lv_aload_n E.1 E.2.1 dX0_composeModels_47 rfl (lv_at hl 0 rfl) ?_
        obtain ⟨g28, h⟩ := gd_r h
        refine gf_X0_18 E hW g28 dX0_composeModels_48 ?_
        refine lv_aload_n E.1 E.2.1 dX0_composeModels_51 rfl (lv_at hl 2 rfl) ?_
        refine gf_X0_34 E hW g25 dX0_composeModels_52 ?_
        refine lv_iload E.1 E.2.1 dX0_composeModels_55 (lv_at hl 5 rfl) ?_
        refine r_lald E hW (pr_eq g26.1) g26.2 dX0_composeModels_57 ?_
        obtain ⟨g29, h⟩ := gd_r h
        obtain ⟨_r, σ30, c31, h⟩ := obn_r h
        refine c_V (As := [.long (σ13.2 (rC q16 0) x19.toNatClampNeg)]) (rest := []) E hW (m_X2_becomeConstant c31) g29 rfl kw_475 wv_X2_becomeConstant yo_X2_becomeConstant ⟨rfl, rfl⟩ ⟨(Nat.le_of_ble_eq_true rfl), (Nat.le_of_ble_eq_true rfl)⟩ (lv_size hl) (Nat.le_of_ble_eq_true rfl) ⟨(Nat.le_of_ble_eq_true rfl), (Nat.le_of_ble_eq_true rfl)⟩ rfl dX0_composeModels_58 (fun H locs hW => ?_)
        refine W.eq (g2 := F0 m 61 ls []) rfl ?_
        refine lv_iconst (v := (0 : Int32)) E.1 E.2.1 dX0_composeModels_61 (by decide) ?_
        refine lv_istore (lv' := [(6, .int (0 : Int32)), (0, .ref (G.2.2.2 + q14)), (1, .ref (G.2.2.2 + q15)), (2, .ref (G.2.2.2 + q16)), (3, .ref (G.2.2.2 + q17)), (4, .ref (G.2.2.2 + q18)), (5, .int x19)]) E.1 E.2.1 dX0_composeModels_62 hl (by decide) rfl (fun ls hl => ?_)
        refine L_X0_composeModels_64 E hr hlk ?_ _ _ _ _ _ _ _ _ _ _ _ _ h hW (lv_sub hl [1, 2, 3, 4, 5, 6, 0] rfl)
        · intro q41 q42 q43 q44 q45 x46 σ40 H locs ls h hW hl
          refine lv_aload_n E.1 E.2.1 dX0_composeModels_122 rfl (lv_at hl 0 rfl) ?_
          refine lv_aload_n E.1 E.2.1 dX0_composeModels_123 rfl (lv_at hl 0 rfl) ?_
          obtain ⟨g72, h⟩ := gd_r h
          refine gf_X0_22 E hW g72 dX0_composeModels_124 ?_
          refine lv_aload_n E.1 E.2.1 dX0_composeModels_127 rfl (lv_at hl 0 rfl) ?_
          refine gf_X0_22 E hW g72 dX0_composeModels_128 ?_
          refine lv_aload_n E.1 E.2.1 dX0_composeModels_131 rfl (lv_at hl 0 rfl) ?_
          refine gf_X0_18 E hW g72 dX0_composeModels_132 ?_
          obtain ⟨x74, σ73, c75, h⟩ := obn_r h
          refine c_V (As := [.ref (G.2.2.2 + (rC q41 4)), .ref (G.2.2.2 + (rC q41 4)), .ref (G.2.2.2 + (rC q41 3))]) (rest := []) E hW (m_X0_addModels c75) g72 rfl kw_596 wv_X0_addModels yo_X0_addModels ⟨rfl, rfl⟩ ⟨(Nat.le_of_ble_eq_true rfl), (Nat.le_of_ble_eq_true rfl)⟩ (lv_size hl) (Nat.le_of_ble_eq_true rfl) ⟨(Nat.le_of_ble_eq_true rfl), (Nat.le_of_ble_eq_true rfl)⟩ rfl dX0_composeModels_135 (fun H locs hW => ?_)
          refine W.eq (g2 := F0 m 138 ls [.int x74]) rfl ?_
          refine lv_if_ne (tgt := 143) E.1 E.2.1 dX0_composeModels_138 (by decide) (fun g => ?_) (fun g => ?_)
          · have h := ifn h g
            obtain ⟨x76, ex76⟩ : ∃ y : Int32, y = x46 + (1 : Int32) := ⟨_, rfl⟩
            have h := bnd_r ex76 h
            refine lv_iinc (v := x76) (lv' := [(5, .int x76), (0, .ref (G.2.2.2 + q41)), (1, .ref (G.2.2.2 + q42)), (2, .ref (G.2.2.2 + q43)), (3, .ref (G.2.2.2 + q44)), (4, .ref (G.2.2.2 + q45))]) E.1 E.2.1 dX0_composeModels_143 hl (k := 5) rfl (by rw [ex76]; rfl) (by decide) rfl (fun ls hl => ?_)
            refine lv_goto (tgt := 28) E.1 E.2.1 dX0_composeModels_146 (by decide) ?_
            exact ih _ _ _ _ _ _ _ _ _ _ h hW (lv_sub hl [1, 2, 3, 4, 5, 0] rfl)
          · have h := ifp h g
            refine lv_iconst (v := (0 : Int32)) E.1 E.2.1 dX0_composeModels_141 (by decide) ?_
            exact e_z E hW hr hlk (by decide) h dX0_composeModels_142
set_option maxHeartbeats 4000000 in
set_option maxRecDepth 100000 in
theorem m_X0_composeModels {l : Launch} {G : GP} {sz : Nat} {q0 : Nat} {q1 : Nat} {q2 : Nat} {q3 : Nat} {q4 : Nat} {σ σ0 : St} {r0 : Int32} (h : f_X0_composeModels q0 q1 q2 q3 q4 σ = some (r0, σ0)) : Met l yX0_composeModels [.code yX0_composeModels cX0_composeModels 7 (some .boolean)] ({ frames := 3, cells := 0, slots := 0, locals := 88 } : Room) (va_Pc [.ref (G.2.2.2 + q0), .ref (G.2.2.2 + q1), .ref (G.2.2.2 + q2), .ref (G.2.2.2 + q3), .ref (G.2.2.2 + q4)] (PreC G skC sz σ)) (QO (PoC G skC σ0) (Aw G.2.2.2 skC.1 sz) (some (.int r0))) 0 0 (Aw G.2.2.2 skC.1 sz) := by
  refine mkMet (by decide +kernel) (Nat.le_of_ble_eq_true rfl) skC_ok ?_
  intro p e s m below meth c ls E hW hl hr hlk
  have hl : lv_has ls 7 [(0, .ref (G.2.2.2 + q0)), (1, .ref (G.2.2.2 + q1)), (2, .ref (G.2.2.2 + q2)), (3, .ref (G.2.2.2 + q3)), (4, .ref (G.2.2.2 + q4))] := hl
  generalize Aw G.2.2.2 skC.1 s.heap.size = A0 at E hW ⊢
  generalize ([.ref (G.2.2.2 + q0), .ref (G.2.2.2 + q1), .ref (G.2.2.2 + q2), .ref (G.2.2.2 + q3), .ref (G.2.2.2 + q4)] : List Value).toArray = args
  unfold f_X0_composeModels at h
  refine lv_aload_n E.1 E.2.1 dX0_composeModels_0 rfl (lv_at hl 3 rfl) ?_
  obtain ⟨g1, h⟩ := gd_r h
  obtain ⟨x3, σ2, c4, h⟩ := obn_r h
  refine c_V (As := []) (rest := []) E hW (m_X2_staysInSquare c4) g1 rfl kw_561 wv_X2_staysInSquare yo_X2_staysInSquare ⟨rfl, rfl⟩ ⟨(Nat.le_of_ble_eq_true rfl), (Nat.le_of_ble_eq_true rfl)⟩ (lv_size hl) (Nat.le_of_ble_eq_true rfl) ⟨(Nat.le_of_ble_eq_true rfl), (Nat.le_of_ble_eq_true rfl)⟩ rfl dX0_composeModels_1 (fun H locs hW => ?_)
  refine W.eq (g2 := F0 m 4 ls [.int x3]) rfl ?_
  refine lv_if_eq (tgt := 15) E.1 E.2.1 dX0_composeModels_4 (by decide) (fun g => ?_) (fun g => ?_)
  · have h := ifp h g
    refine lv_iconst (v := (0 : Int32)) E.1 E.2.1 dX0_composeModels_15 (by decide) ?_
    exact e_z E hW hr hlk (by decide) h dX0_composeModels_16
  · have h := ifn h g
    refine lv_aload E.1 E.2.1 dX0_composeModels_7 (lv_at hl 4 rfl) ?_
    obtain ⟨g5, h⟩ := gd_r h
    obtain ⟨x7, σ6, c8, h⟩ := obn_r h
    refine c_V (As := []) (rest := []) E hW (m_X2_staysInSquare c8) g5 rfl kw_561 wv_X2_staysInSquare yo_X2_staysInSquare ⟨rfl, rfl⟩ ⟨(Nat.le_of_ble_eq_true rfl), (Nat.le_of_ble_eq_true rfl)⟩ (lv_size hl) (Nat.le_of_ble_eq_true rfl) ⟨(Nat.le_of_ble_eq_true rfl), (Nat.le_of_ble_eq_true rfl)⟩ rfl dX0_composeModels_9 (fun H locs hW => ?_)
    refine W.eq (g2 := F0 m 12 ls [.int x7]) rfl ?_
    refine lv_if_ne (tgt := 17) E.1 E.2.1 dX0_composeModels_12 (by decide) (fun g => ?_) (fun g => ?_)
    · have h := ifn h g
      refine lv_aload_n E.1 E.2.1 dX0_composeModels_17 rfl (lv_at hl 0 rfl) ?_
      obtain ⟨g9, h⟩ := gd_r h
      refine gf_X0_22 E hW g9 dX0_composeModels_18 ?_
      refine lv_lconst (v := (0 : Int64)) E.1 E.2.1 dX0_composeModels_21 (by decide) ?_
      obtain ⟨g10, h⟩ := gd_r h
      obtain ⟨_r, σ11, c12, h⟩ := obn_r h
      refine c_V (As := [.long (0 : Int64)]) (rest := []) E hW (m_X2_becomeConstant c12) g10 rfl kw_475 wv_X2_becomeConstant yo_X2_becomeConstant ⟨rfl, rfl⟩ ⟨(Nat.le_of_ble_eq_true rfl), (Nat.le_of_ble_eq_true rfl)⟩ (lv_size hl) (Nat.le_of_ble_eq_true rfl) ⟨(Nat.le_of_ble_eq_true rfl), (Nat.le_of_ble_eq_true rfl)⟩ rfl dX0_composeModels_22 (fun H locs hW => ?_)
      refine W.eq (g2 := F0 m 25 ls []) rfl ?_
      refine lv_iconst (v := (0 : Int32)) E.1 E.2.1 dX0_composeModels_25 (by decide) ?_
      refine lv_istore (lv' := [(5, .int (0 : Int32)), (0, .ref (G.2.2.2 + q0)), (1, .ref (G.2.2.2 + q1)), (2, .ref (G.2.2.2 + q2)), (3, .ref (G.2.2.2 + q3)), (4, .ref (G.2.2.2 + q4))]) E.1 E.2.1 dX0_composeModels_26 hl (by decide) rfl (fun ls hl => ?_)
      refine L_X0_composeModels_28 E hr hlk ?_ _ _ _ _ _ _ _ _ _ _ _ h hW (lv_sub hl [1, 2, 3, 4, 5, 0] rfl)
      · intro q21 q22 q23 σ20 H locs ls h hW hl
        refine lv_aload_n E.1 E.2.1 dX0_composeModels_149 rfl (lv_at hl 0 rfl) ?_
        obtain ⟨g77, h⟩ := gd_r h
        refine gf_X0_22 E hW g77 dX0_composeModels_150 ?_
        refine lv_dup E.1 E.2.1 dX0_composeModels_153 rfl ?_
        obtain ⟨g78, h⟩ := gd_r h
        refine gf_X0_37 E hW g78 dX0_composeModels_154 ?_
        refine lv_aload_n E.1 E.2.1 dX0_composeModels_157 rfl (lv_at hl 2 rfl) ?_
        obtain ⟨g79, h⟩ := gd_r h
        refine gf_X0_37 E hW g79 dX0_composeModels_158 ?_
        refine lv_ladd E.1 E.2.1 dX0_composeModels_161 ?_
        refine pf_X0_37 E hW g78 dX0_composeModels_162 (fun σ80 H locs eσ80 hW => ?_)
        have h := bnd_r eσ80 h
        refine lv_aload_n E.1 E.2.1 dX0_composeModels_165 rfl (lv_at hl 0 rfl) ?_
        refine gf_X0_22 E hW g77 dX0_composeModels_166 ?_
        refine lv_dup E.1 E.2.1 dX0_composeModels_169 rfl ?_
        refine gf_X0_41 E hW g78 dX0_composeModels_170 ?_
        refine lv_aload_n E.1 E.2.1 dX0_composeModels_173 rfl (lv_at hl 2 rfl) ?_
        refine gf_X0_41 E hW g79 dX0_composeModels_174 ?_
        refine lv_ladd E.1 E.2.1 dX0_composeModels_177 ?_
        refine pf_X0_41 E hW g78 dX0_composeModels_178 (fun σ81 H locs eσ81 hW => ?_)
        have h := bnd_r eσ81 h
        refine lv_aload_n E.1 E.2.1 dX0_composeModels_181 rfl (lv_at hl 1 rfl) ?_
        refine lv_aload_n E.1 E.2.1 dX0_composeModels_182 rfl (lv_at hl 0 rfl) ?_
        refine gf_X0_22 E hW g77 dX0_composeModels_183 ?_
        obtain ⟨g82, h⟩ := gd_r h
        obtain ⟨_r, σ83, c84, h⟩ := obn_r h
        refine c_V (As := [.ref (G.2.2.2 + (rC q21 4))]) (rest := []) E hW (m_X2_copyFrom c84) g82 rfl kw_525 wv_X2_copyFrom yo_X2_copyFrom ⟨rfl, rfl⟩ ⟨(Nat.le_of_ble_eq_true rfl), (Nat.le_of_ble_eq_true rfl)⟩ (lv_size hl) (Nat.le_of_ble_eq_true rfl) ⟨(Nat.le_of_ble_eq_true rfl), (Nat.le_of_ble_eq_true rfl)⟩ rfl dX0_composeModels_186 (fun H locs hW => ?_)
        refine W.eq (g2 := F0 m 189 ls []) rfl ?_
        refine lv_aload_n E.1 E.2.1 dX0_composeModels_189 rfl (lv_at hl 1 rfl) ?_
        obtain ⟨x86, σ85, c87, h⟩ := obn_r h
        refine c_V (As := []) (rest := []) E hW (m_X2_fits c87) g82 rfl kw_526 wv_X2_fits yo_X2_fits ⟨rfl, rfl⟩ ⟨(Nat.le_of_ble_eq_true rfl), (Nat.le_of_ble_eq_true rfl)⟩ (lv_size hl) (Nat.le_of_ble_eq_true rfl) ⟨(Nat.le_of_ble_eq_true rfl), (Nat.le_of_ble_eq_true rfl)⟩ rfl dX0_composeModels_190 (fun H locs hW => ?_)
        refine W.eq (g2 := F0 m 193 ls [.int x86]) rfl ?_
        obtain ⟨g88, h⟩ := gd_r h
        exact e_z E hW hr hlk g88 h dX0_composeModels_193
    · have h := ifp h g
      refine lv_iconst (v := (0 : Int32)) E.1 E.2.1 dX0_composeModels_15 (by decide) ?_
      exact e_z E hW hr hlk (by decide) h dX0_composeModels_16
set_option maxHeartbeats 4000000 in
set_option maxRecDepth 100000 in
theorem m_X2_widen {l : Launch} {G : GP} {sz : Nat} {q0 : Nat} {a1 : Int64} {σ σ0 : St} {r0 : Unit} (h : f_X2_widen q0 a1 σ = some (r0, σ0)) : Met l yX2_widen [.code yX2_widen cX2_widen 3 none] ({ frames := 0, cells := 0, slots := 0, locals := 0 } : Room) (va_Pc [.ref (G.2.2.2 + q0), .long a1] (PreC G skC sz σ)) (QO (PoC G skC σ0) (Aw G.2.2.2 skC.1 sz) none) 0 0 (Aw G.2.2.2 skC.1 sz) := by
  refine mkMet (by decide +kernel) (Nat.le_of_ble_eq_true rfl) skC_ok ?_
  intro p e s m below meth c ls E hW hl hr hlk
  have hl : lv_has ls 3 [(0, .ref (G.2.2.2 + q0)), (1, .long a1)] := hl
  generalize Aw G.2.2.2 skC.1 s.heap.size = A0 at E hW ⊢
  generalize ([.ref (G.2.2.2 + q0), .long a1] : List Value).toArray = args
  unfold f_X2_widen at h
  refine lv_aload_n E.1 E.2.1 dX2_widen_0 rfl (lv_at hl 0 rfl) ?_
  refine lv_dup E.1 E.2.1 dX2_widen_1 rfl ?_
  obtain ⟨g1, h⟩ := gd_r h
  refine gf_X2_21 E hW g1 dX2_widen_2 ?_
  refine lv_lload_n E.1 E.2.1 dX2_widen_5 rfl (lv_at hl 1 rfl) ?_
  refine lv_lsub E.1 E.2.1 dX2_widen_6 ?_
  refine pf_X2_21 E hW g1 dX2_widen_7 (fun σ2 H locs eσ2 hW => ?_)
  have h := bnd_r eσ2 h
  refine lv_aload_n E.1 E.2.1 dX2_widen_10 rfl (lv_at hl 0 rfl) ?_
  refine lv_dup E.1 E.2.1 dX2_widen_11 rfl ?_
  refine gf_X2_25 E hW g1 dX2_widen_12 ?_
  refine lv_lload_n E.1 E.2.1 dX2_widen_15 rfl (lv_at hl 1 rfl) ?_
  refine lv_ladd E.1 E.2.1 dX2_widen_16 ?_
  refine pf_X2_25 E hW g1 dX2_widen_17 (fun σ3 H locs eσ3 hW => ?_)
  have h := bnd_r eσ3 h
  exact e_v E hW hr hlk h dX2_widen_20
set_option maxHeartbeats 4000000 in
set_option maxRecDepth 100000 in
theorem m_X6_slotOf {l : Launch} {G : GP} {sz : Nat} {a0 : Int32} {a1 : Int32} {σ σ0 : St} {r0 : Int32} (h : f_X6_slotOf a0 a1 σ = some (r0, σ0)) : Met l yX6_slotOf [.code yX6_slotOf cX6_slotOf 2 (some .int)] ({ frames := 0, cells := 0, slots := 0, locals := 0 } : Room) (va_Pc [.int a0, .int a1] (PreC G skC sz σ)) (QO (PoC G skC σ0) (Aw G.2.2.2 skC.1 sz) (some (.int r0))) 0 0 (Aw G.2.2.2 skC.1 sz) := by
  refine mkMet (by decide +kernel) (Nat.le_of_ble_eq_true rfl) skC_ok ?_
  intro p e s m below meth c ls E hW hl hr hlk
  have hl : lv_has ls 2 [(0, .int a0), (1, .int a1)] := hl
  generalize Aw G.2.2.2 skC.1 s.heap.size = A0 at E hW ⊢
  generalize ([.int a0, .int a1] : List Value).toArray = args
  unfold f_X6_slotOf at h
  refine lv_iload_n E.1 E.2.1 dX6_slotOf_0 rfl (lv_at hl 0 rfl) ?_
  refine lv_if_lt (tgt := 20) E.1 E.2.1 dX6_slotOf_1 (by decide) (fun g => ?_) (fun g => ?_)
  · have h := ifp h g
    refine lv_iconst (v := (-1 : Int32)) E.1 E.2.1 dX6_slotOf_20 (by decide) ?_
    exact e_i E hW hr hlk h dX6_slotOf_21
  · have h := ifn h g
    refine lv_iload_n E.1 E.2.1 dX6_slotOf_4 rfl (lv_at hl 1 rfl) ?_
    refine lv_if_lt (tgt := 20) E.1 E.2.1 dX6_slotOf_5 (by decide) (fun g => ?_) (fun g => ?_)
    · have h := ifp h g
      refine lv_iconst (v := (-1 : Int32)) E.1 E.2.1 dX6_slotOf_20 (by decide) ?_
      exact e_i E hW hr hlk h dX6_slotOf_21
    · have h := ifn h g
      refine lv_iload_n E.1 E.2.1 dX6_slotOf_8 rfl (lv_at hl 0 rfl) ?_
      refine lv_iconst (v := (3 : Int32)) E.1 E.2.1 dX6_slotOf_9 (by decide) ?_
      refine lv_icmp_gt (tgt := 20) E.1 E.2.1 dX6_slotOf_10 (by decide) (fun g => ?_) (fun g => ?_)
      · have h := ifp h g
        refine lv_iconst (v := (-1 : Int32)) E.1 E.2.1 dX6_slotOf_20 (by decide) ?_
        exact e_i E hW hr hlk h dX6_slotOf_21
      · have h := ifn h g
        refine lv_iload_n E.1 E.2.1 dX6_slotOf_13 rfl (lv_at hl 1 rfl) ?_
        refine lv_iconst (v := (3 : Int32)) E.1 E.2.1 dX6_slotOf_14 (by decide) ?_
        refine lv_iload_n E.1 E.2.1 dX6_slotOf_15 rfl (lv_at hl 0 rfl) ?_
        refine lv_isub E.1 E.2.1 dX6_slotOf_16 ?_
        refine lv_icmp_le (tgt := 22) E.1 E.2.1 dX6_slotOf_17 (by decide) (fun g => ?_) (fun g => ?_)
        · have h := ifp h g
          refine r_gets E hW 2 (by decide) rfl kw_497 dX6_slotOf_22 (fun t1 Tt1 => ?_)
          refine lv_iload_n E.1 E.2.1 dX6_slotOf_25 rfl (lv_at hl 0 rfl) ?_
          obtain ⟨g2, h⟩ := gd_r h
          refine r_tald E hW 2 Tt1 g2 dX6_slotOf_26 ?_
          refine lv_iload_n E.1 E.2.1 dX6_slotOf_27 rfl (lv_at hl 1 rfl) ?_
          refine lv_iadd E.1 E.2.1 dX6_slotOf_28 ?_
          exact e_i E hW hr hlk h dX6_slotOf_29
        · have h := ifn h g
          refine lv_iconst (v := (-1 : Int32)) E.1 E.2.1 dX6_slotOf_20 (by decide) ?_
          exact e_i E hW hr hlk h dX6_slotOf_21
set_option maxHeartbeats 4000000 in
set_option maxRecDepth 100000 in
theorem m_X0_integrateTerm {l : Launch} {G : GP} {sz : Nat} {q0 : Nat} {a1 : Int64} {a3 : Int32} {a4 : Int32} {a5 : Int32} {σ σ0 : St} {r0 : Unit} (h : f_X0_integrateTerm q0 a1 a3 a4 a5 σ = some (r0, σ0)) : Met l yX0_integrateTerm [.code yX0_integrateTerm cX0_integrateTerm 8 none] ({ frames := 2, cells := 0, slots := 0, locals := 52 } : Room) (va_Pc [.ref (G.2.2.2 + q0), .long a1, .int a3, .int a4, .int a5] (PreC G skC sz σ)) (QO (PoC G skC σ0) (Aw G.2.2.2 skC.1 sz) none) 0 0 (Aw G.2.2.2 skC.1 sz) := by
  refine mkMet (by decide +kernel) (Nat.le_of_ble_eq_true rfl) skC_ok ?_
  intro p e s m below meth c ls E hW hl hr hlk
  have hl : lv_has ls 8 [(0, .ref (G.2.2.2 + q0)), (1, .long a1), (3, .int a3), (4, .int a4), (5, .int a5)] := hl
  generalize Aw G.2.2.2 skC.1 s.heap.size = A0 at E hW ⊢
  generalize ([.ref (G.2.2.2 + q0), .long a1, .int a3, .int a4, .int a5] : List Value).toArray = args
  unfold f_X0_integrateTerm at h
  refine lv_iload_n E.1 E.2.1 dX0_integrateTerm_0 rfl (lv_at hl 2 rfl) ?_
  refine lv_iload E.1 E.2.1 dX0_integrateTerm_1 (lv_at hl 3 rfl) ?_
  obtain ⟨x2, σ1, c3, h⟩ := obn_r h
  refine c_SN (As := [.int a3, .int a4]) (rest := []) E hW (m_X6_slotOf c3) kw_494 ws_X6_slotOf yo_X6_slotOf ⟨rfl, rfl⟩ ⟨(Nat.le_of_ble_eq_true rfl), (Nat.le_of_ble_eq_true rfl)⟩ (lv_size hl) (Nat.le_of_ble_eq_true rfl) ⟨(Nat.le_of_ble_eq_true rfl), (Nat.le_of_ble_eq_true rfl)⟩ rfl dX0_integrateTerm_3 (fun H locs hW => ?_)
  refine W.eq (g2 := F0 m 6 ls [.int x2]) rfl ?_
  refine lv_istore (lv' := [(6, .int x2), (0, .ref (G.2.2.2 + q0)), (1, .long a1), (3, .int a3), (4, .int a4), (5, .int a5)]) E.1 E.2.1 dX0_integrateTerm_6 hl (by decide) rfl (fun ls hl => ?_)
  refine lv_iload E.1 E.2.1 dX0_integrateTerm_8 (lv_at hl 0 rfl) ?_
  refine lv_if_lt (tgt := 29) E.1 E.2.1 dX0_integrateTerm_10 (by decide) (fun g => ?_) (fun g => ?_)
  · have h := ifp h g
    refine lv_iload E.1 E.2.1 dX0_integrateTerm_29 (lv_at hl 5 rfl) ?_
    refine lv_if_le (tgt := 91) E.1 E.2.1 dX0_integrateTerm_31 (by decide) (fun g => ?_) (fun g => ?_)
    · have h := ifp h g
      exact e_v E hW hr hlk h dX0_integrateTerm_91
    · have h := ifn h g
      refine lv_iload_n E.1 E.2.1 dX0_integrateTerm_34 rfl (lv_at hl 3 rfl) ?_
      refine lv_iload E.1 E.2.1 dX0_integrateTerm_35 (lv_at hl 4 rfl) ?_
      obtain ⟨x5, σ4, c6, h⟩ := obn_r h
      refine c_SN (As := [.int a3, .int a4]) (rest := []) E hW (m_X6_lowestOf c6) kw_511 ws_X6_lowestOf yo_X6_lowestOf ⟨rfl, rfl⟩ ⟨(Nat.le_of_ble_eq_true rfl), (Nat.le_of_ble_eq_true rfl)⟩ (lv_size hl) (Nat.le_of_ble_eq_true rfl) ⟨(Nat.le_of_ble_eq_true rfl), (Nat.le_of_ble_eq_true rfl)⟩ rfl dX0_integrateTerm_37 (fun H locs hW => ?_)
      refine W.eq (g2 := F0 m 40 ls [.int x5]) rfl ?_
      refine lv_istore (lv' := [(7, .int x5), (6, .int x2), (0, .ref (G.2.2.2 + q0)), (1, .long a1), (3, .int a3), (4, .int a4), (5, .int a5)]) E.1 E.2.1 dX0_integrateTerm_40 hl (by decide) rfl (fun ls hl => ?_)
      refine lv_aload_n E.1 E.2.1 dX0_integrateTerm_42 rfl (lv_at hl 2 rfl) ?_
      obtain ⟨g7, h⟩ := gd_r h
      refine gf_X0_22 E hW g7 dX0_integrateTerm_43 ?_
      refine lv_dup E.1 E.2.1 dX0_integrateTerm_46 rfl ?_
      obtain ⟨g8, h⟩ := gd_r h
      refine gf_X0_37 E hW g8 dX0_integrateTerm_47 ?_
      refine lv_lload_n E.1 E.2.1 dX0_integrateTerm_50 rfl (lv_at hl 3 rfl) ?_
      refine lv_iload E.1 E.2.1 dX0_integrateTerm_51 (lv_at hl 0 rfl) ?_
      obtain ⟨x10, σ9, c11, h⟩ := obn_r h
      refine c_SN (As := [.long a1, .int x5]) (rest := [.long (σ4.2 (rC q0 4) 1), .ref (G.2.2.2 + (rC q0 4))]) E hW (m_X6_rangeLow c11) kw_514 ws_X6_rangeLow yo_X6_rangeLow ⟨rfl, rfl⟩ ⟨(Nat.le_of_ble_eq_true rfl), (Nat.le_of_ble_eq_true rfl)⟩ (lv_size hl) (Nat.le_of_ble_eq_true rfl) ⟨(Nat.le_of_ble_eq_true rfl), (Nat.le_of_ble_eq_true rfl)⟩ rfl dX0_integrateTerm_53 (fun H locs hW => ?_)
      refine W.eq (g2 := F0 m 56 ls [.long x10, .long (σ4.2 (rC q0 4) 1), .ref (G.2.2.2 + (rC q0 4))]) rfl ?_
      refine lv_iload E.1 E.2.1 dX0_integrateTerm_56 (lv_at hl 6 rfl) ?_
      refine lv_i2l E.1 E.2.1 dX0_integrateTerm_58 rfl ?_
      obtain ⟨x13, σ12, c14, h⟩ := obn_r h
      refine c_S (As := [.long x10, .long a5.toInt64]) (rest := [.long (σ4.2 (rC q0 4) 1), .ref (G.2.2.2 + (rC q0 4))]) E hW (m_J9_floorDiv_f86c9 c14) kw_520 ws_J9_floorDiv_f86c9 yo_J9_floorDiv_f86c9 ⟨rfl, rfl⟩ ⟨(Nat.le_of_ble_eq_true rfl), (Nat.le_of_ble_eq_true rfl)⟩ (lv_size hl) (Nat.le_of_ble_eq_true rfl) ⟨(Nat.le_of_ble_eq_true rfl), (Nat.le_of_ble_eq_true rfl)⟩ rfl dX0_integrateTerm_59 (fun H locs hW => ?_)
      refine W.eq (g2 := F0 m 62 ls [.long x13, .long (σ4.2 (rC q0 4) 1), .ref (G.2.2.2 + (rC q0 4))]) rfl ?_
      refine lv_ladd E.1 E.2.1 dX0_integrateTerm_62 ?_
      refine pf_X0_37 E hW g8 dX0_integrateTerm_63 (fun σ15 H locs eσ15 hW => ?_)
      have h := bnd_r eσ15 h
      refine lv_aload_n E.1 E.2.1 dX0_integrateTerm_66 rfl (lv_at hl 2 rfl) ?_
      refine gf_X0_22 E hW g7 dX0_integrateTerm_67 ?_
      refine lv_dup E.1 E.2.1 dX0_integrateTerm_70 rfl ?_
      refine gf_X0_41 E hW g8 dX0_integrateTerm_71 ?_
      refine lv_lload_n E.1 E.2.1 dX0_integrateTerm_74 rfl (lv_at hl 3 rfl) ?_
      refine lv_iload E.1 E.2.1 dX0_integrateTerm_75 (lv_at hl 0 rfl) ?_
      obtain ⟨x17, σ16, c18, h⟩ := obn_r h
      refine c_SN (As := [.long a1, .int x5]) (rest := [.long (σ15.2 (rC q0 4) 2), .ref (G.2.2.2 + (rC q0 4))]) E hW (m_X6_rangeHigh c18) kw_521 ws_X6_rangeHigh yo_X6_rangeHigh ⟨rfl, rfl⟩ ⟨(Nat.le_of_ble_eq_true rfl), (Nat.le_of_ble_eq_true rfl)⟩ (lv_size hl) (Nat.le_of_ble_eq_true rfl) ⟨(Nat.le_of_ble_eq_true rfl), (Nat.le_of_ble_eq_true rfl)⟩ rfl dX0_integrateTerm_77 (fun H locs hW => ?_)
      refine W.eq (g2 := F0 m 80 ls [.long x17, .long (σ15.2 (rC q0 4) 2), .ref (G.2.2.2 + (rC q0 4))]) rfl ?_
      refine lv_lneg E.1 E.2.1 dX0_integrateTerm_80 ?_
      refine lv_iload E.1 E.2.1 dX0_integrateTerm_81 (lv_at hl 6 rfl) ?_
      refine lv_i2l E.1 E.2.1 dX0_integrateTerm_83 rfl ?_
      obtain ⟨x20, σ19, c21, h⟩ := obn_r h
      refine c_S (As := [.long (-x17), .long a5.toInt64]) (rest := [.long (σ15.2 (rC q0 4) 2), .ref (G.2.2.2 + (rC q0 4))]) E hW (m_J9_floorDiv_f86c9 c21) kw_520 ws_J9_floorDiv_f86c9 yo_J9_floorDiv_f86c9 ⟨rfl, rfl⟩ ⟨(Nat.le_of_ble_eq_true rfl), (Nat.le_of_ble_eq_true rfl)⟩ (lv_size hl) (Nat.le_of_ble_eq_true rfl) ⟨(Nat.le_of_ble_eq_true rfl), (Nat.le_of_ble_eq_true rfl)⟩ rfl dX0_integrateTerm_84 (fun H locs hW => ?_)
      refine W.eq (g2 := F0 m 87 ls [.long x20, .long (σ15.2 (rC q0 4) 2), .ref (G.2.2.2 + (rC q0 4))]) rfl ?_
      refine lv_lsub E.1 E.2.1 dX0_integrateTerm_87 ?_
      refine pf_X0_41 E hW g8 dX0_integrateTerm_88 (fun σ22 H locs eσ22 hW => ?_)
      have h := bnd_r eσ22 h
      exact e_v E hW hr hlk h dX0_integrateTerm_91
  · have h := ifn h g
    refine lv_aload_n E.1 E.2.1 dX0_integrateTerm_13 rfl (lv_at hl 1 rfl) ?_
    obtain ⟨g23, h⟩ := gd_r h
    refine gf_X0_22 E hW g23 dX0_integrateTerm_14 ?_
    refine lv_iload E.1 E.2.1 dX0_integrateTerm_17 (lv_at hl 0 rfl) ?_
    refine lv_lload_n E.1 E.2.1 dX0_integrateTerm_19 rfl (lv_at hl 2 rfl) ?_
    refine lv_iload E.1 E.2.1 dX0_integrateTerm_20 (lv_at hl 5 rfl) ?_
    refine lv_i2l E.1 E.2.1 dX0_integrateTerm_22 rfl ?_
    obtain ⟨g24, h⟩ := gd_r h
    obtain ⟨_r, σ25, c26, h⟩ := obn_r h
    refine c_V (As := [.int x2, .long a1, .long a5.toInt64]) (rest := []) E hW (m_X2_putQuotient c26) g24 rfl kw_499 wv_X2_putQuotient yo_X2_putQuotient ⟨rfl, rfl⟩ ⟨(Nat.le_of_ble_eq_true rfl), (Nat.le_of_ble_eq_true rfl)⟩ (lv_size hl) (Nat.le_of_ble_eq_true rfl) ⟨(Nat.le_of_ble_eq_true rfl), (Nat.le_of_ble_eq_true rfl)⟩ rfl dX0_integrateTerm_23 (fun H locs hW => ?_)
    refine W.eq (g2 := F0 m 26 ls []) rfl ?_
    refine lv_goto (tgt := 91) E.1 E.2.1 dX0_integrateTerm_26 (by decide) ?_
    exact e_v E hW hr hlk h dX0_integrateTerm_91
set_option maxHeartbeats 4000000 in
set_option maxRecDepth 100000 in
theorem L_X0_integrateModel_35 {p : Program} {l : Launch} {e : Env} {s : State} {m : MethodId} {args : Array Value} {below : List Frame} {meth : Method} {c : Code} {G : GP} {A0 : Nat → Prop} {σ0 : St} {r0 : Int32} {K120 : Nat → Nat → St → Option (Int32 × St)} (E : En p m c s cX0_integrateModel 7 yX0_integrateModel.cls G A0) (hr : meth.sig.returnType = (some .boolean)) (hlk : meth.locks = false) (hK120 : ∀ (q15 : Nat) (q16 : Nat) (σ14 : St) (H : Heap) (locs : List Loc) (ls : Array Slot), K120 q15 q16 σ14 = some (r0, σ0) → Wo G skC A0 s σ14 H locs → lv_has ls 7 [(0, .ref (G.2.2.2 + q15)), (1, .ref (G.2.2.2 + q16))] → W p l e ({ frames := 3, cells := 0, slots := 0, locals := 81 } : Room) s m args below meth c H locs 0 0 (MQ below (QO (PoC G skC σ0) A0 (some (.int r0))) args s 0 0 A0) (F0 m 120 ls [])) : ∀ (n17 : Nat) (q9 : Nat) (q10 : Nat) (q11 : Nat) (x12 : Int32) (x13 : Int32) (σ8 : St) (H : Heap) (locs : List Loc) (ls : Array Slot), f_X0_integrateModel_L35 K120 n17 q9 q10 q11 x12 x13 σ8 = some (r0, σ0) → Wo G skC A0 s σ8 H locs → lv_has ls 7 [(0, .ref (G.2.2.2 + q9)), (1, .ref (G.2.2.2 + q10)), (2, .ref (G.2.2.2 + q11)), (3, .int x12), (4, .int x13)] → W p l e ({ frames := 3, cells := 0, slots := 0, locals := 81 } : Room) s m args below meth c H locs 0 0 (MQ below (QO (PoC G skC σ0) A0 (some (.int r0))) args s 0 0 A0) (F0 m 35 ls []) := by
  intro n17
  induction n17 with
  | zero =>
    intro q9 q10 q11 x12 x13 σ8 H locs ls h hW hl
    rw [f_X0_integrateModel_L35] at h
    cases h
  | succ n17 ih =>
    intro q9 q10 q11 x12 x13 σ8 H locs ls h hW hl
    rw [f_X0_integrateModel_L35] at h
    refine lv_iload E.1 E.2.1 dX0_integrateModel_35 (lv_at hl 4 rfl) ?_
    refine lv_bipush (v := (10 : Int32)) E.1 E.2.1 dX0_integrateModel_37 (by decide) ?_
    refine lv_icmp_ge (tgt := 120) E.1 E.2.1 dX0_integrateModel_39 (by decide) (fun g => ?_) (fun g => ?_)
    · have h := ifp h g
      exact hK120 _ _ _ _ _ _ h hW (lv_sub hl [0, 1] rfl)
    · have h := ifn h g
      refine lv_iload_n E.1 E.2.1 dX0_integrateModel_42 rfl (lv_at hl 3 rfl) ?_
      obtain ⟨J25, eJ25, h⟩ := bnd_x h
      have hJ25 : ∀ (q19 : Nat) (q20 : Nat) (q21 : Nat) (x22 : Int32) (x23 : Int32) (x24 : Int32) (σ18 : St) (H : Heap) (locs : List Loc) (ls : Array Slot), J25 q19 q20 q21 x22 x23 x24 σ18 = some (r0, σ0) → Wo G skC A0 s σ18 H locs → lv_has ls 7 [(0, .ref (G.2.2.2 + q19)), (1, .ref (G.2.2.2 + q20)), (2, .ref (G.2.2.2 + q21)), (3, .int x22), (4, .int x23)] → W p l e ({ frames := 3, cells := 0, slots := 0, locals := 81 } : Room) s m args below meth c H locs 0 0 (MQ below (QO (PoC G skC σ0) A0 (some (.int r0))) args s 0 0 A0) (F0 m 63 ls [.int x24]) := by
        intro q19 q20 q21 x22 x23 x24 σ18 H locs ls h hW hl
        have h := jr7 eJ25 h
        refine lv_istore (lv' := [(5, .int x24), (0, .ref (G.2.2.2 + q19)), (1, .ref (G.2.2.2 + q20)), (2, .ref (G.2.2.2 + q21)), (3, .int x22), (4, .int x23)]) E.1 E.2.1 dX0_integrateModel_63 hl (by decide) rfl (fun ls hl => ?_)
        refine lv_iload_n E.1 E.2.1 dX0_integrateModel_65 rfl (lv_at hl 4 rfl) ?_
        obtain ⟨J34, eJ34, h⟩ := bnd_x h
        have hJ34 : ∀ (q27 : Nat) (q28 : Nat) (q29 : Nat) (x30 : Int32) (x31 : Int32) (x32 : Int32) (x33 : Int32) (σ26 : St) (H : Heap) (locs : List Loc) (ls : Array Slot), J34 q27 q28 q29 x30 x31 x32 x33 σ26 = some (r0, σ0) → Wo G skC A0 s σ26 H locs → lv_has ls 7 [(0, .ref (G.2.2.2 + q27)), (1, .ref (G.2.2.2 + q28)), (2, .ref (G.2.2.2 + q29)), (3, .int x30), (4, .int x31), (5, .int x32)] → W p l e ({ frames := 3, cells := 0, slots := 0, locals := 81 } : Room) s m args below meth c H locs 0 0 (MQ below (QO (PoC G skC σ0) A0 (some (.int r0))) args s 0 0 A0) (F0 m 86 ls [.int x33]) := by
          intro q27 q28 q29 x30 x31 x32 x33 σ26 H locs ls h hW hl
          have h := jr8 eJ34 h
          refine lv_istore (lv' := [(6, .int x33), (0, .ref (G.2.2.2 + q27)), (1, .ref (G.2.2.2 + q28)), (2, .ref (G.2.2.2 + q29)), (3, .int x30), (4, .int x31), (5, .int x32)]) E.1 E.2.1 dX0_integrateModel_86 hl (by decide) rfl (fun ls hl => ?_)
          refine lv_aload_n E.1 E.2.1 dX0_integrateModel_88 rfl (lv_at hl 1 rfl) ?_
          refine lv_aload_n E.1 E.2.1 dX0_integrateModel_89 rfl (lv_at hl 3 rfl) ?_
          obtain ⟨g35, h⟩ := gd_r h
          refine gf_X0_34 E hW g35 dX0_integrateModel_90 ?_
          refine lv_iload E.1 E.2.1 dX0_integrateModel_93 (lv_at hl 5 rfl) ?_
          obtain ⟨g36, h⟩ := gd_r h
          refine r_lald E hW (pr_eq g36.1) g36.2 dX0_integrateModel_95 ?_
          refine lv_iload E.1 E.2.1 dX0_integrateModel_96 (lv_at hl 6 rfl) ?_
          refine lv_iload E.1 E.2.1 dX0_integrateModel_98 (lv_at hl 0 rfl) ?_
          refine lv_iload_n E.1 E.2.1 dX0_integrateModel_100 rfl (lv_at hl 4 rfl) ?_
          obtain ⟨J48, eJ48, h⟩ := bnd_x h
          have hJ48 : ∀ (q38 : Nat) (q39 : Nat) (q40 : Nat) (x41 : Int32) (x42 : Int32) (x43 : Int32) (x44 : Int32) (x45 : Int32) (x46 : Int64) (q47 : Nat) (σ37 : St) (H : Heap) (locs : List Loc) (ls : Array Slot), J48 q38 q39 q40 x41 x42 x43 x44 x45 x46 q47 σ37 = some (r0, σ0) → Wo G skC A0 s σ37 H locs → lv_has ls 7 [(0, .ref (G.2.2.2 + q38)), (1, .ref (G.2.2.2 + q39)), (2, .ref (G.2.2.2 + q40)), (3, .int x41), (4, .int x42)] → W p l e ({ frames := 3, cells := 0, slots := 0, locals := 81 } : Room) s m args below meth c H locs 0 0 (MQ below (QO (PoC G skC σ0) A0 (some (.int r0))) args s 0 0 A0) (F0 m 111 ls [.int x43, .int x44, .int x45, .long x46, .ref (G.2.2.2 + q47)]) := by
            intro q38 q39 q40 x41 x42 x43 x44 x45 x46 q47 σ37 H locs ls h hW hl
            have h := jr11 eJ48 h
            obtain ⟨g49, h⟩ := gd_r h
            obtain ⟨_r, σ50, c51, h⟩ := obn_r h
            refine c_V (As := [.long x46, .int x45, .int x44, .int x43]) (rest := []) E hW (m_X0_integrateTerm c51) g49 rfl kw_490 wv_X0_integrateTerm yo_X0_integrateTerm ⟨rfl, rfl⟩ ⟨(Nat.le_of_ble_eq_true rfl), (Nat.le_of_ble_eq_true rfl)⟩ (lv_size hl) (Nat.le_of_ble_eq_true rfl) ⟨(Nat.le_of_ble_eq_true rfl), (Nat.le_of_ble_eq_true rfl)⟩ rfl dX0_integrateModel_111 (fun H locs hW => ?_)
            refine W.eq (g2 := F0 m 114 ls []) rfl ?_
            obtain ⟨x52, ex52⟩ : ∃ y : Int32, y = x42 + (1 : Int32) := ⟨_, rfl⟩
            have h := bnd_r ex52 h
            refine lv_iinc (v := x52) (lv' := [(4, .int x52), (0, .ref (G.2.2.2 + q38)), (1, .ref (G.2.2.2 + q39)), (2, .ref (G.2.2.2 + q40)), (3, .int x41)]) E.1 E.2.1 dX0_integrateModel_114 hl (k := 4) rfl (by rw [ex52]; rfl) (by decide) rfl (fun ls hl => ?_)
            refine lv_goto (tgt := 35) E.1 E.2.1 dX0_integrateModel_117 (by decide) ?_
            exact ih _ _ _ _ _ _ _ _ _ h hW (lv_sub hl [1, 2, 3, 4, 0] rfl)
          refine lv_if_ne (tgt := 109) E.1 E.2.1 dX0_integrateModel_101 (by decide) (fun g => ?_) (fun g => ?_)
          · have h := ifn h g
            refine lv_iload E.1 E.2.1 dX0_integrateModel_109 (lv_at hl 0 rfl) ?_
            exact hJ48 _ _ _ _ _ _ _ _ _ _ _ _ _ _ h hW (lv_sub hl [1, 2, 3, 4, 5] rfl)
          · have h := ifp h g
            refine lv_iload E.1 E.2.1 dX0_integrateModel_104 (lv_at hl 6 rfl) ?_
            refine lv_goto (tgt := 111) E.1 E.2.1 dX0_integrateModel_106 (by decide) ?_
            exact hJ48 _ _ _ _ _ _ _ _ _ _ _ _ _ _ h hW (lv_sub hl [1, 2, 3, 4, 5] rfl)
        refine lv_if_ne (tgt := 78) E.1 E.2.1 dX0_integrateModel_66 (by decide) (fun g => ?_) (fun g => ?_)
        · have h := ifn h g
          refine r_getsN E hW 1 (by decide) rfl kw_488 dX0_integrateModel_78 (fun t53 Tt53 => ?_)
          refine lv_iload E.1 E.2.1 dX0_integrateModel_81 (lv_at hl 5 rfl) ?_
          obtain ⟨g54, h⟩ := gd_r h
          refine r_tald E hW 1 Tt53 g54 dX0_integrateModel_83 ?_
          refine lv_iconst (v := (1 : Int32)) E.1 E.2.1 dX0_integrateModel_84 (by decide) ?_
          refine lv_iadd E.1 E.2.1 dX0_integrateModel_85 ?_
          exact hJ34 _ _ _ _ _ _ _ _ _ _ _ h hW (lv_sub hl [1, 2, 3, 4, 5, 0] rfl)
        · have h := ifp h g
          refine r_getsN E hW 1 (by decide) rfl kw_488 dX0_integrateModel_69 (fun t55 Tt55 => ?_)
          refine lv_iload E.1 E.2.1 dX0_integrateModel_72 (lv_at hl 5 rfl) ?_
          obtain ⟨g56, h⟩ := gd_r h
          refine r_tald E hW 1 Tt55 g56 dX0_integrateModel_74 ?_
          refine lv_goto (tgt := 86) E.1 E.2.1 dX0_integrateModel_75 (by decide) ?_
          exact hJ34 _ _ _ _ _ _ _ _ _ _ _ h hW (lv_sub hl [1, 2, 3, 4, 5, 0] rfl)
      refine lv_if_ne (tgt := 57) E.1 E.2.1 dX0_integrateModel_43 (by decide) (fun g => ?_) (fun g => ?_)
      · have h := ifn h g
        refine r_getsN E hW 0 (by decide) rfl kw_486 dX0_integrateModel_57 (fun t57 Tt57 => ?_)
        refine lv_iload E.1 E.2.1 dX0_integrateModel_60 (lv_at hl 4 rfl) ?_
        obtain ⟨g58, h⟩ := gd_r h
        refine r_tald E hW 0 Tt57 g58 dX0_integrateModel_62 ?_
        exact hJ25 _ _ _ _ _ _ _ _ _ _ h hW (lv_sub hl [0, 1, 2, 3, 4] rfl)
      · have h := ifp h g
        refine r_getsN E hW 0 (by decide) rfl kw_486 dX0_integrateModel_46 (fun t59 Tt59 => ?_)
        refine lv_iload E.1 E.2.1 dX0_integrateModel_49 (lv_at hl 4 rfl) ?_
        obtain ⟨g60, h⟩ := gd_r h
        refine r_tald E hW 0 Tt59 g60 dX0_integrateModel_51 ?_
        refine lv_iconst (v := (1 : Int32)) E.1 E.2.1 dX0_integrateModel_52 (by decide) ?_
        refine lv_iadd E.1 E.2.1 dX0_integrateModel_53 ?_
        refine lv_goto (tgt := 63) E.1 E.2.1 dX0_integrateModel_54 (by decide) ?_
        exact hJ25 _ _ _ _ _ _ _ _ _ _ h hW (lv_sub hl [0, 1, 2, 3, 4] rfl)
set_option maxHeartbeats 4000000 in
set_option maxRecDepth 100000 in
theorem m_X0_integrateModel {l : Launch} {G : GP} {sz : Nat} {q0 : Nat} {q1 : Nat} {q2 : Nat} {a3 : Int32} {σ σ0 : St} {r0 : Int32} (h : f_X0_integrateModel q0 q1 q2 a3 σ = some (r0, σ0)) : Met l yX0_integrateModel [.code yX0_integrateModel cX0_integrateModel 7 (some .boolean)] ({ frames := 3, cells := 0, slots := 0, locals := 81 } : Room) (va_Pc [.ref (G.2.2.2 + q0), .ref (G.2.2.2 + q1), .ref (G.2.2.2 + q2), .int a3] (PreC G skC sz σ)) (QO (PoC G skC σ0) (Aw G.2.2.2 skC.1 sz) (some (.int r0))) 0 0 (Aw G.2.2.2 skC.1 sz) := by
  refine mkMet (by decide +kernel) (Nat.le_of_ble_eq_true rfl) skC_ok ?_
  intro p e s m below meth c ls E hW hl hr hlk
  have hl : lv_has ls 7 [(0, .ref (G.2.2.2 + q0)), (1, .ref (G.2.2.2 + q1)), (2, .ref (G.2.2.2 + q2)), (3, .int a3)] := hl
  generalize Aw G.2.2.2 skC.1 s.heap.size = A0 at E hW ⊢
  generalize ([.ref (G.2.2.2 + q0), .ref (G.2.2.2 + q1), .ref (G.2.2.2 + q2), .int a3] : List Value).toArray = args
  unfold f_X0_integrateModel at h
  refine lv_aload_n E.1 E.2.1 dX0_integrateModel_0 rfl (lv_at hl 0 rfl) ?_
  obtain ⟨g1, h⟩ := gd_r h
  refine gf_X0_22 E hW g1 dX0_integrateModel_1 ?_
  refine lv_lconst (v := (0 : Int64)) E.1 E.2.1 dX0_integrateModel_4 (by decide) ?_
  obtain ⟨g2, h⟩ := gd_r h
  obtain ⟨_r, σ3, c4, h⟩ := obn_r h
  refine c_V (As := [.long (0 : Int64)]) (rest := []) E hW (m_X2_becomeConstant c4) g2 rfl kw_475 wv_X2_becomeConstant yo_X2_becomeConstant ⟨rfl, rfl⟩ ⟨(Nat.le_of_ble_eq_true rfl), (Nat.le_of_ble_eq_true rfl)⟩ (lv_size hl) (Nat.le_of_ble_eq_true rfl) ⟨(Nat.le_of_ble_eq_true rfl), (Nat.le_of_ble_eq_true rfl)⟩ rfl dX0_integrateModel_5 (fun H locs hW => ?_)
  refine W.eq (g2 := F0 m 8 ls []) rfl ?_
  refine lv_aload_n E.1 E.2.1 dX0_integrateModel_8 rfl (lv_at hl 0 rfl) ?_
  refine gf_X0_22 E hW g1 dX0_integrateModel_9 ?_
  refine lv_aload_n E.1 E.2.1 dX0_integrateModel_12 rfl (lv_at hl 2 rfl) ?_
  obtain ⟨g5, h⟩ := gd_r h
  refine gf_X0_37 E hW g5 dX0_integrateModel_13 ?_
  refine r_absJ E (lv_size hl) ⟨kw_476, kw_477, kw_19, kw_478⟩ ⟨(Nat.le_of_ble_eq_true rfl), (Nat.le_of_ble_eq_true rfl)⟩ ⟨(Nat.le_of_ble_eq_true rfl), (Nat.le_of_ble_eq_true rfl)⟩ dX0_integrateModel_16 ?_
  refine lv_aload_n E.1 E.2.1 dX0_integrateModel_19 rfl (lv_at hl 2 rfl) ?_
  refine gf_X0_41 E hW g5 dX0_integrateModel_20 ?_
  refine r_absJ E (lv_size hl) ⟨kw_476, kw_477, kw_19, kw_478⟩ ⟨(Nat.le_of_ble_eq_true rfl), (Nat.le_of_ble_eq_true rfl)⟩ ⟨(Nat.le_of_ble_eq_true rfl), (Nat.le_of_ble_eq_true rfl)⟩ dX0_integrateModel_23 ?_
  refine r_maxJ E (lv_size hl) ⟨kw_479, kw_480, kw_19, kw_481⟩ ⟨(Nat.le_of_ble_eq_true rfl), (Nat.le_of_ble_eq_true rfl)⟩ ⟨(Nat.le_of_ble_eq_true rfl), (Nat.le_of_ble_eq_true rfl)⟩ dX0_integrateModel_26 ?_
  obtain ⟨_r, σ6, c7, h⟩ := obn_r h
  refine c_V (As := [.long (mxJ (abJ (σ3.2 q2 1)) (abJ (σ3.2 q2 2)))]) (rest := []) E hW (m_X2_widen c7) g2 rfl kw_482 wv_X2_widen yo_X2_widen ⟨rfl, rfl⟩ ⟨(Nat.le_of_ble_eq_true rfl), (Nat.le_of_ble_eq_true rfl)⟩ (lv_size hl) (Nat.le_of_ble_eq_true rfl) ⟨(Nat.le_of_ble_eq_true rfl), (Nat.le_of_ble_eq_true rfl)⟩ rfl dX0_integrateModel_29 (fun H locs hW => ?_)
  refine W.eq (g2 := F0 m 32 ls []) rfl ?_
  refine lv_iconst (v := (0 : Int32)) E.1 E.2.1 dX0_integrateModel_32 (by decide) ?_
  refine lv_istore (lv' := [(4, .int (0 : Int32)), (0, .ref (G.2.2.2 + q0)), (1, .ref (G.2.2.2 + q1)), (2, .ref (G.2.2.2 + q2)), (3, .int a3)]) E.1 E.2.1 dX0_integrateModel_33 hl (by decide) rfl (fun ls hl => ?_)
  refine L_X0_integrateModel_35 E hr hlk ?_ _ _ _ _ _ _ _ _ _ _ h hW (lv_sub hl [1, 2, 3, 4, 0] rfl)
  · intro q15 q16 σ14 H locs ls h hW hl
    refine lv_aload_n E.1 E.2.1 dX0_integrateModel_120 rfl (lv_at hl 1 rfl) ?_
    refine lv_aload_n E.1 E.2.1 dX0_integrateModel_121 rfl (lv_at hl 0 rfl) ?_
    obtain ⟨g61, h⟩ := gd_r h
    refine gf_X0_22 E hW g61 dX0_integrateModel_122 ?_
    obtain ⟨g62, h⟩ := gd_r h
    obtain ⟨_r, σ63, c64, h⟩ := obn_r h
    refine c_V (As := [.ref (G.2.2.2 + (rC q15 4))]) (rest := []) E hW (m_X2_copyFrom c64) g62 rfl kw_525 wv_X2_copyFrom yo_X2_copyFrom ⟨rfl, rfl⟩ ⟨(Nat.le_of_ble_eq_true rfl), (Nat.le_of_ble_eq_true rfl)⟩ (lv_size hl) (Nat.le_of_ble_eq_true rfl) ⟨(Nat.le_of_ble_eq_true rfl), (Nat.le_of_ble_eq_true rfl)⟩ rfl dX0_integrateModel_125 (fun H locs hW => ?_)
    refine W.eq (g2 := F0 m 128 ls []) rfl ?_
    refine lv_aload_n E.1 E.2.1 dX0_integrateModel_128 rfl (lv_at hl 1 rfl) ?_
    obtain ⟨x66, σ65, c67, h⟩ := obn_r h
    refine c_V (As := []) (rest := []) E hW (m_X2_fits c67) g62 rfl kw_526 wv_X2_fits yo_X2_fits ⟨rfl, rfl⟩ ⟨(Nat.le_of_ble_eq_true rfl), (Nat.le_of_ble_eq_true rfl)⟩ (lv_size hl) (Nat.le_of_ble_eq_true rfl) ⟨(Nat.le_of_ble_eq_true rfl), (Nat.le_of_ble_eq_true rfl)⟩ rfl dX0_integrateModel_129 (fun H locs hW => ?_)
    refine W.eq (g2 := F0 m 132 ls [.int x66]) rfl ?_
    obtain ⟨g68, h⟩ := gd_r h
    exact e_z E hW hr hlk g68 h dX0_integrateModel_132
set_option maxHeartbeats 4000000 in
set_option maxRecDepth 100000 in
theorem m_X0_moveModels {l : Launch} {G : GP} {sz : Nat} {q0 : Nat} {q1 : Nat} {q2 : Nat} {q3 : Nat} {q4 : Nat} {a5 : Int64} {σ σ0 : St} {r0 : Int32} (h : f_X0_moveModels q0 q1 q2 q3 q4 a5 σ = some (r0, σ0)) : Met l yX0_moveModels [.code yX0_moveModels cX0_moveModels 7 (some .boolean)] ({ frames := 4, cells := 0, slots := 0, locals := 114 } : Room) (va_Pc [.ref (G.2.2.2 + q0), .ref (G.2.2.2 + q1), .ref (G.2.2.2 + q2), .ref (G.2.2.2 + q3), .ref (G.2.2.2 + q4), .long a5] (PreC G skC sz σ)) (QO (PoC G skC σ0) (Aw G.2.2.2 skC.1 sz) (some (.int r0))) 0 0 (Aw G.2.2.2 skC.1 sz) := by
  refine mkMet (by decide +kernel) (Nat.le_of_ble_eq_true rfl) skC_ok ?_
  intro p e s m below meth c ls E hW hl hr hlk
  have hl : lv_has ls 7 [(0, .ref (G.2.2.2 + q0)), (1, .ref (G.2.2.2 + q1)), (2, .ref (G.2.2.2 + q2)), (3, .ref (G.2.2.2 + q3)), (4, .ref (G.2.2.2 + q4)), (5, .long a5)] := hl
  generalize Aw G.2.2.2 skC.1 s.heap.size = A0 at E hW ⊢
  generalize ([.ref (G.2.2.2 + q0), .ref (G.2.2.2 + q1), .ref (G.2.2.2 + q2), .ref (G.2.2.2 + q3), .ref (G.2.2.2 + q4), .long a5] : List Value).toArray = args
  unfold f_X0_moveModels at h
  refine lv_aload_n E.1 E.2.1 dX0_moveModels_0 rfl (lv_at hl 0 rfl) ?_
  obtain ⟨g1, h⟩ := gd_r h
  refine gf_X0_25 E hW g1 dX0_moveModels_1 ?_
  refine lv_lload E.1 E.2.1 dX0_moveModels_4 (lv_at hl 5 rfl) ?_
  obtain ⟨g2, h⟩ := gd_r h
  obtain ⟨_r, σ3, c4, h⟩ := obn_r h
  refine c_V (As := [.long a5]) (rest := []) E hW (m_X2_becomeConstant c4) g2 rfl kw_475 wv_X2_becomeConstant yo_X2_becomeConstant ⟨rfl, rfl⟩ ⟨(Nat.le_of_ble_eq_true rfl), (Nat.le_of_ble_eq_true rfl)⟩ (lv_size hl) (Nat.le_of_ble_eq_true rfl) ⟨(Nat.le_of_ble_eq_true rfl), (Nat.le_of_ble_eq_true rfl)⟩ rfl dX0_moveModels_6 (fun H locs hW => ?_)
  refine W.eq (g2 := F0 m 9 ls []) rfl ?_
  refine lv_aload_n E.1 E.2.1 dX0_moveModels_9 rfl (lv_at hl 0 rfl) ?_
  refine lv_aload_n E.1 E.2.1 dX0_moveModels_10 rfl (lv_at hl 0 rfl) ?_
  refine gf_X0_28 E hW g1 dX0_moveModels_11 ?_
  refine lv_aload_n E.1 E.2.1 dX0_moveModels_14 rfl (lv_at hl 3 rfl) ?_
  refine lv_aload_n E.1 E.2.1 dX0_moveModels_15 rfl (lv_at hl 1 rfl) ?_
  refine lv_aload_n E.1 E.2.1 dX0_moveModels_16 rfl (lv_at hl 2 rfl) ?_
  obtain ⟨x6, σ5, c7, h⟩ := obn_r h
  refine c_V (As := [.ref (G.2.2.2 + (rC q0 6)), .ref (G.2.2.2 + q3), .ref (G.2.2.2 + q1), .ref (G.2.2.2 + q2)]) (rest := []) E hW (m_X0_composeModels c7) g1 rfl kw_847 wv_X0_composeModels yo_X0_composeModels ⟨rfl, rfl⟩ ⟨(Nat.le_of_ble_eq_true rfl), (Nat.le_of_ble_eq_true rfl)⟩ (lv_size hl) (Nat.le_of_ble_eq_true rfl) ⟨(Nat.le_of_ble_eq_true rfl), (Nat.le_of_ble_eq_true rfl)⟩ rfl dX0_moveModels_17 (fun H locs hW => ?_)
  refine W.eq (g2 := F0 m 20 ls [.int x6]) rfl ?_
  refine lv_if_eq (tgt := 38) E.1 E.2.1 dX0_moveModels_20 (by decide) (fun g => ?_) (fun g => ?_)
  · have h := ifp h g
    refine lv_iconst (v := (0 : Int32)) E.1 E.2.1 dX0_moveModels_38 (by decide) ?_
    exact e_z E hW hr hlk (by decide) h dX0_moveModels_39
  · have h := ifn h g
    refine lv_aload_n E.1 E.2.1 dX0_moveModels_23 rfl (lv_at hl 0 rfl) ?_
    refine lv_aload_n E.1 E.2.1 dX0_moveModels_24 rfl (lv_at hl 0 rfl) ?_
    refine gf_X0_31 E hW g1 dX0_moveModels_25 ?_
    refine lv_aload E.1 E.2.1 dX0_moveModels_28 (lv_at hl 4 rfl) ?_
    refine lv_aload_n E.1 E.2.1 dX0_moveModels_30 rfl (lv_at hl 1 rfl) ?_
    refine lv_aload_n E.1 E.2.1 dX0_moveModels_31 rfl (lv_at hl 2 rfl) ?_
    obtain ⟨x9, σ8, c10, h⟩ := obn_r h
    refine c_V (As := [.ref (G.2.2.2 + (rC q0 7)), .ref (G.2.2.2 + q4), .ref (G.2.2.2 + q1), .ref (G.2.2.2 + q2)]) (rest := []) E hW (m_X0_composeModels c10) g1 rfl kw_847 wv_X0_composeModels yo_X0_composeModels ⟨rfl, rfl⟩ ⟨(Nat.le_of_ble_eq_true rfl), (Nat.le_of_ble_eq_true rfl)⟩ (lv_size hl) (Nat.le_of_ble_eq_true rfl) ⟨(Nat.le_of_ble_eq_true rfl), (Nat.le_of_ble_eq_true rfl)⟩ rfl dX0_moveModels_32 (fun H locs hW => ?_)
    refine W.eq (g2 := F0 m 35 ls [.int x9]) rfl ?_
    refine lv_if_ne (tgt := 40) E.1 E.2.1 dX0_moveModels_35 (by decide) (fun g => ?_) (fun g => ?_)
    · have h := ifn h g
      refine lv_aload_n E.1 E.2.1 dX0_moveModels_40 rfl (lv_at hl 0 rfl) ?_
      refine lv_aload_n E.1 E.2.1 dX0_moveModels_41 rfl (lv_at hl 0 rfl) ?_
      refine gf_X0_28 E hW g1 dX0_moveModels_42 ?_
      refine lv_aload_n E.1 E.2.1 dX0_moveModels_45 rfl (lv_at hl 0 rfl) ?_
      refine gf_X0_25 E hW g1 dX0_moveModels_46 ?_
      refine lv_aload_n E.1 E.2.1 dX0_moveModels_49 rfl (lv_at hl 0 rfl) ?_
      refine gf_X0_28 E hW g1 dX0_moveModels_50 ?_
      obtain ⟨x12, σ11, c13, h⟩ := obn_r h
      refine c_V (As := [.ref (G.2.2.2 + (rC q0 6)), .ref (G.2.2.2 + (rC q0 5)), .ref (G.2.2.2 + (rC q0 6))]) (rest := []) E hW (m_X0_multiplyModels c13) g1 rfl kw_576 wv_X0_multiplyModels yo_X0_multiplyModels ⟨rfl, rfl⟩ ⟨(Nat.le_of_ble_eq_true rfl), (Nat.le_of_ble_eq_true rfl)⟩ (lv_size hl) (Nat.le_of_ble_eq_true rfl) ⟨(Nat.le_of_ble_eq_true rfl), (Nat.le_of_ble_eq_true rfl)⟩ rfl dX0_moveModels_53 (fun H locs hW => ?_)
      refine W.eq (g2 := F0 m 56 ls [.int x12]) rfl ?_
      refine lv_if_eq (tgt := 78) E.1 E.2.1 dX0_moveModels_56 (by decide) (fun g => ?_) (fun g => ?_)
      · have h := ifp h g
        refine lv_iconst (v := (0 : Int32)) E.1 E.2.1 dX0_moveModels_78 (by decide) ?_
        exact e_z E hW hr hlk (by decide) h dX0_moveModels_79
      · have h := ifn h g
        refine lv_aload_n E.1 E.2.1 dX0_moveModels_59 rfl (lv_at hl 0 rfl) ?_
        refine lv_aload_n E.1 E.2.1 dX0_moveModels_60 rfl (lv_at hl 0 rfl) ?_
        refine gf_X0_31 E hW g1 dX0_moveModels_61 ?_
        refine lv_aload_n E.1 E.2.1 dX0_moveModels_64 rfl (lv_at hl 0 rfl) ?_
        refine gf_X0_25 E hW g1 dX0_moveModels_65 ?_
        refine lv_aload_n E.1 E.2.1 dX0_moveModels_68 rfl (lv_at hl 0 rfl) ?_
        refine gf_X0_31 E hW g1 dX0_moveModels_69 ?_
        obtain ⟨x15, σ14, c16, h⟩ := obn_r h
        refine c_V (As := [.ref (G.2.2.2 + (rC q0 7)), .ref (G.2.2.2 + (rC q0 5)), .ref (G.2.2.2 + (rC q0 7))]) (rest := []) E hW (m_X0_multiplyModels c16) g1 rfl kw_576 wv_X0_multiplyModels yo_X0_multiplyModels ⟨rfl, rfl⟩ ⟨(Nat.le_of_ble_eq_true rfl), (Nat.le_of_ble_eq_true rfl)⟩ (lv_size hl) (Nat.le_of_ble_eq_true rfl) ⟨(Nat.le_of_ble_eq_true rfl), (Nat.le_of_ble_eq_true rfl)⟩ rfl dX0_moveModels_72 (fun H locs hW => ?_)
        refine W.eq (g2 := F0 m 75 ls [.int x15]) rfl ?_
        refine lv_if_ne (tgt := 80) E.1 E.2.1 dX0_moveModels_75 (by decide) (fun g => ?_) (fun g => ?_)
        · have h := ifn h g
          refine lv_aload_n E.1 E.2.1 dX0_moveModels_80 rfl (lv_at hl 0 rfl) ?_
          refine lv_aload_n E.1 E.2.1 dX0_moveModels_81 rfl (lv_at hl 0 rfl) ?_
          refine gf_X0_28 E hW g1 dX0_moveModels_82 ?_
          refine lv_aload_n E.1 E.2.1 dX0_moveModels_85 rfl (lv_at hl 1 rfl) ?_
          refine lv_aload_n E.1 E.2.1 dX0_moveModels_86 rfl (lv_at hl 0 rfl) ?_
          refine gf_X0_28 E hW g1 dX0_moveModels_87 ?_
          obtain ⟨x18, σ17, c19, h⟩ := obn_r h
          refine c_V (As := [.ref (G.2.2.2 + (rC q0 6)), .ref (G.2.2.2 + q1), .ref (G.2.2.2 + (rC q0 6))]) (rest := []) E hW (m_X0_addModels c19) g1 rfl kw_596 wv_X0_addModels yo_X0_addModels ⟨rfl, rfl⟩ ⟨(Nat.le_of_ble_eq_true rfl), (Nat.le_of_ble_eq_true rfl)⟩ (lv_size hl) (Nat.le_of_ble_eq_true rfl) ⟨(Nat.le_of_ble_eq_true rfl), (Nat.le_of_ble_eq_true rfl)⟩ rfl dX0_moveModels_90 (fun H locs hW => ?_)
          refine W.eq (g2 := F0 m 93 ls [.int x18]) rfl ?_
          refine lv_if_eq (tgt := 112) E.1 E.2.1 dX0_moveModels_93 (by decide) (fun g => ?_) (fun g => ?_)
          · have h := ifp h g
            refine lv_iconst (v := (0 : Int32)) E.1 E.2.1 dX0_moveModels_112 (by decide) ?_
            exact e_z E hW hr hlk (by decide) h dX0_moveModels_113
          · have h := ifn h g
            refine lv_aload_n E.1 E.2.1 dX0_moveModels_96 rfl (lv_at hl 0 rfl) ?_
            refine lv_aload_n E.1 E.2.1 dX0_moveModels_97 rfl (lv_at hl 0 rfl) ?_
            refine gf_X0_31 E hW g1 dX0_moveModels_98 ?_
            refine lv_aload_n E.1 E.2.1 dX0_moveModels_101 rfl (lv_at hl 2 rfl) ?_
            refine lv_aload_n E.1 E.2.1 dX0_moveModels_102 rfl (lv_at hl 0 rfl) ?_
            refine gf_X0_31 E hW g1 dX0_moveModels_103 ?_
            obtain ⟨x21, σ20, c22, h⟩ := obn_r h
            refine c_V (As := [.ref (G.2.2.2 + (rC q0 7)), .ref (G.2.2.2 + q2), .ref (G.2.2.2 + (rC q0 7))]) (rest := []) E hW (m_X0_addModels c22) g1 rfl kw_596 wv_X0_addModels yo_X0_addModels ⟨rfl, rfl⟩ ⟨(Nat.le_of_ble_eq_true rfl), (Nat.le_of_ble_eq_true rfl)⟩ (lv_size hl) (Nat.le_of_ble_eq_true rfl) ⟨(Nat.le_of_ble_eq_true rfl), (Nat.le_of_ble_eq_true rfl)⟩ rfl dX0_moveModels_106 (fun H locs hW => ?_)
            refine W.eq (g2 := F0 m 109 ls [.int x21]) rfl ?_
            refine lv_if_ne (tgt := 114) E.1 E.2.1 dX0_moveModels_109 (by decide) (fun g => ?_) (fun g => ?_)
            · have h := ifn h g
              refine lv_aload_n E.1 E.2.1 dX0_moveModels_114 rfl (lv_at hl 1 rfl) ?_
              refine lv_aload_n E.1 E.2.1 dX0_moveModels_115 rfl (lv_at hl 0 rfl) ?_
              refine gf_X0_28 E hW g1 dX0_moveModels_116 ?_
              obtain ⟨g23, h⟩ := gd_r h
              obtain ⟨_r, σ24, c25, h⟩ := obn_r h
              refine c_V (As := [.ref (G.2.2.2 + (rC q0 6))]) (rest := []) E hW (m_X2_copyFrom c25) g23 rfl kw_525 wv_X2_copyFrom yo_X2_copyFrom ⟨rfl, rfl⟩ ⟨(Nat.le_of_ble_eq_true rfl), (Nat.le_of_ble_eq_true rfl)⟩ (lv_size hl) (Nat.le_of_ble_eq_true rfl) ⟨(Nat.le_of_ble_eq_true rfl), (Nat.le_of_ble_eq_true rfl)⟩ rfl dX0_moveModels_119 (fun H locs hW => ?_)
              refine W.eq (g2 := F0 m 122 ls []) rfl ?_
              refine lv_aload_n E.1 E.2.1 dX0_moveModels_122 rfl (lv_at hl 2 rfl) ?_
              refine lv_aload_n E.1 E.2.1 dX0_moveModels_123 rfl (lv_at hl 0 rfl) ?_
              refine gf_X0_31 E hW g1 dX0_moveModels_124 ?_
              obtain ⟨g26, h⟩ := gd_r h
              obtain ⟨_r, σ27, c28, h⟩ := obn_r h
              refine c_V (As := [.ref (G.2.2.2 + (rC q0 7))]) (rest := []) E hW (m_X2_copyFrom c28) g26 rfl kw_525 wv_X2_copyFrom yo_X2_copyFrom ⟨rfl, rfl⟩ ⟨(Nat.le_of_ble_eq_true rfl), (Nat.le_of_ble_eq_true rfl)⟩ (lv_size hl) (Nat.le_of_ble_eq_true rfl) ⟨(Nat.le_of_ble_eq_true rfl), (Nat.le_of_ble_eq_true rfl)⟩ rfl dX0_moveModels_127 (fun H locs hW => ?_)
              refine W.eq (g2 := F0 m 130 ls []) rfl ?_
              refine lv_iconst (v := (1 : Int32)) E.1 E.2.1 dX0_moveModels_130 (by decide) ?_
              exact e_z E hW hr hlk (by decide) h dX0_moveModels_131
            · have h := ifp h g
              refine lv_iconst (v := (0 : Int32)) E.1 E.2.1 dX0_moveModels_112 (by decide) ?_
              exact e_z E hW hr hlk (by decide) h dX0_moveModels_113
        · have h := ifp h g
          refine lv_iconst (v := (0 : Int32)) E.1 E.2.1 dX0_moveModels_78 (by decide) ?_
          exact e_z E hW hr hlk (by decide) h dX0_moveModels_79
    · have h := ifp h g
      refine lv_iconst (v := (0 : Int32)) E.1 E.2.1 dX0_moveModels_38 (by decide) ?_
      exact e_z E hW hr hlk (by decide) h dX0_moveModels_39
set_option maxHeartbeats 4000000 in
set_option maxRecDepth 100000 in
theorem L_X3_copyFrom_10 {p : Program} {l : Launch} {e : Env} {s : State} {m : MethodId} {args : Array Value} {below : List Frame} {meth : Method} {c : Code} {G : GP} {A0 : Nat → Prop} {σ0 : St} {r0 : Unit} (E : En p m c s cX3_copyFrom 3 yX3_copyFrom.cls G A0) (hr : meth.sig.returnType = none) (hlk : meth.locks = false) : ∀ (n8 : Nat) (q5 : Nat) (q6 : Nat) (x7 : Int32) (σ4 : St) (H : Heap) (locs : List Loc) (ls : Array Slot), f_X3_copyFrom_L10 n8 q5 q6 x7 σ4 = some (r0, σ0) → Wo G skC A0 s σ4 H locs → lv_has ls 3 [(0, .ref (G.2.2.2 + q5)), (1, .ref (G.2.2.2 + q6)), (2, .int x7)] → W p l e ({ frames := 2, cells := 0, slots := 0, locals := 81 } : Room) s m args below meth c H locs 0 0 (MQ below (QO (PoC G skC σ0) A0 none) args s 0 0 A0) (F0 m 10 ls []) := by
  intro n8
  induction n8 with
  | zero =>
    intro q5 q6 x7 σ4 H locs ls h hW hl
    rw [f_X3_copyFrom_L10] at h
    cases h
  | succ n8 ih =>
    intro q5 q6 x7 σ4 H locs ls h hW hl
    rw [f_X3_copyFrom_L10] at h
    refine lv_iload_n E.1 E.2.1 dX3_copyFrom_10 rfl (lv_at hl 2 rfl) ?_
    refine lv_bipush (v := (8 : Int32)) E.1 E.2.1 dX3_copyFrom_11 (by decide) ?_
    refine lv_icmp_ge (tgt := 37) E.1 E.2.1 dX3_copyFrom_13 (by decide) (fun g => ?_) (fun g => ?_)
    · have h := ifp h g
      exact e_v E hW hr hlk h dX3_copyFrom_37
    · have h := ifn h g
      refine lv_aload_n E.1 E.2.1 dX3_copyFrom_16 rfl (lv_at hl 0 rfl) ?_
      obtain ⟨g9, h⟩ := gd_r h
      refine gf_X3_11 E hW g9 dX3_copyFrom_17 ?_
      refine lv_iload_n E.1 E.2.1 dX3_copyFrom_20 rfl (lv_at hl 2 rfl) ?_
      obtain ⟨g10, h⟩ := gd_r h
      refine r_aald (t := 0) (ty := .object "TaylorModels$Model") E hW (pr_eq g10.1) g10.2 rfl rfl (by decide) dX3_copyFrom_21 ?_
      refine lv_aload_n E.1 E.2.1 dX3_copyFrom_22 rfl (lv_at hl 1 rfl) ?_
      obtain ⟨g11, h⟩ := gd_r h
      refine gf_X3_11 E hW g11 dX3_copyFrom_23 ?_
      refine lv_iload_n E.1 E.2.1 dX3_copyFrom_26 rfl (lv_at hl 2 rfl) ?_
      obtain ⟨g12, h⟩ := gd_r h
      refine r_aald (t := 0) (ty := .object "TaylorModels$Model") E hW (pr_eq g12.1) g12.2 rfl rfl (by decide) dX3_copyFrom_27 ?_
      obtain ⟨g13, h⟩ := gd_r h
      obtain ⟨_r, σ14, c15, h⟩ := obn_r h
      refine c_V (As := [.ref (G.2.2.2 + (rC (rC q6 0) x7.toNatClampNeg))]) (rest := []) E hW (m_X2_copyFrom c15) g13 rfl kw_252 wv_X2_copyFrom yo_X2_copyFrom ⟨rfl, rfl⟩ ⟨(Nat.le_of_ble_eq_true rfl), (Nat.le_of_ble_eq_true rfl)⟩ (lv_size hl) (Nat.le_of_ble_eq_true rfl) ⟨(Nat.le_of_ble_eq_true rfl), (Nat.le_of_ble_eq_true rfl)⟩ rfl dX3_copyFrom_28 (fun H locs hW => ?_)
      refine W.eq (g2 := F0 m 31 ls []) rfl ?_
      obtain ⟨x16, ex16⟩ : ∃ y : Int32, y = x7 + (1 : Int32) := ⟨_, rfl⟩
      have h := bnd_r ex16 h
      refine lv_iinc (v := x16) (lv' := [(2, .int x16), (0, .ref (G.2.2.2 + q5)), (1, .ref (G.2.2.2 + q6))]) E.1 E.2.1 dX3_copyFrom_31 hl (k := 2) rfl (by rw [ex16]; rfl) (by decide) rfl (fun ls hl => ?_)
      refine lv_goto (tgt := 10) E.1 E.2.1 dX3_copyFrom_34 (by decide) ?_
      exact ih _ _ _ _ _ _ _ h hW (lv_sub hl [1, 2, 0] rfl)
set_option maxHeartbeats 4000000 in
set_option maxRecDepth 100000 in
theorem m_X3_copyFrom {l : Launch} {G : GP} {sz : Nat} {q0 : Nat} {q1 : Nat} {σ σ0 : St} {r0 : Unit} (h : f_X3_copyFrom q0 q1 σ = some (r0, σ0)) : Met l yX3_copyFrom [.code yX3_copyFrom cX3_copyFrom 3 none] ({ frames := 2, cells := 0, slots := 0, locals := 81 } : Room) (va_Pc [.ref (G.2.2.2 + q0), .ref (G.2.2.2 + q1)] (PreC G skC sz σ)) (QO (PoC G skC σ0) (Aw G.2.2.2 skC.1 sz) none) 0 0 (Aw G.2.2.2 skC.1 sz) := by
  refine mkMet (by decide +kernel) (Nat.le_of_ble_eq_true rfl) skC_ok ?_
  intro p e s m below meth c ls E hW hl hr hlk
  have hl : lv_has ls 3 [(0, .ref (G.2.2.2 + q0)), (1, .ref (G.2.2.2 + q1))] := hl
  generalize Aw G.2.2.2 skC.1 s.heap.size = A0 at E hW ⊢
  generalize ([.ref (G.2.2.2 + q0), .ref (G.2.2.2 + q1)] : List Value).toArray = args
  unfold f_X3_copyFrom at h
  refine lv_aload_n E.1 E.2.1 dX3_copyFrom_0 rfl (lv_at hl 0 rfl) ?_
  refine lv_aload_n E.1 E.2.1 dX3_copyFrom_1 rfl (lv_at hl 1 rfl) ?_
  obtain ⟨g1, h⟩ := gd_r h
  refine gf_X3_18 E hW g1 dX3_copyFrom_2 ?_
  obtain ⟨g2, h⟩ := gd_r h
  refine pf_X3_18 E hW g2 dX3_copyFrom_5 (fun σ3 H locs eσ3 hW => ?_)
  have h := bnd_r eσ3 h
  refine lv_iconst (v := (0 : Int32)) E.1 E.2.1 dX3_copyFrom_8 (by decide) ?_
  refine lv_istore_n (lv' := [(2, .int (0 : Int32)), (0, .ref (G.2.2.2 + q0)), (1, .ref (G.2.2.2 + q1))]) E.1 E.2.1 dX3_copyFrom_9 rfl hl (by decide) rfl (fun ls hl => ?_)
  refine L_X3_copyFrom_10 E hr hlk _ _ _ _ _ _ _ _ h hW (lv_sub hl [1, 2, 0] rfl)
set_option maxHeartbeats 4000000 in
set_option maxRecDepth 100000 in
theorem m_X1_remember {l : Launch} {G : GP} {sz : Nat} {q0 : Nat} {q1 : Nat} {σ σ0 : St} {r0 : Unit} (h : f_X1_remember q0 q1 σ = some (r0, σ0)) : Met l yX1_remember [.code yX1_remember cX1_remember 2 none] ({ frames := 3, cells := 0, slots := 0, locals := 103 } : Room) (va_Pc [.ref (G.2.2.2 + q0), .ref (G.2.2.2 + q1)] (PreC G skC sz σ)) (QO (PoC G skC σ0) (Aw G.2.2.2 skC.1 sz) none) 0 0 (Aw G.2.2.2 skC.1 sz) := by
  refine mkMet (by decide +kernel) (Nat.le_of_ble_eq_true rfl) skC_ok ?_
  intro p e s m below meth c ls E hW hl hr hlk
  have hl : lv_has ls 2 [(0, .ref (G.2.2.2 + q0)), (1, .ref (G.2.2.2 + q1))] := hl
  generalize Aw G.2.2.2 skC.1 s.heap.size = A0 at E hW ⊢
  generalize ([.ref (G.2.2.2 + q0), .ref (G.2.2.2 + q1)] : List Value).toArray = args
  unfold f_X1_remember at h
  refine lv_aload_n E.1 E.2.1 dX1_remember_0 rfl (lv_at hl 0 rfl) ?_
  obtain ⟨g1, h⟩ := gd_r h
  refine gf_X1_18 E hW g1 dX1_remember_1 ?_
  obtain ⟨J5, eJ5, h⟩ := bnd_x h
  have hJ5 : ∀ (q3 : Nat) (q4 : Nat) (σ2 : St) (H : Heap) (locs : List Loc) (ls : Array Slot), J5 q3 q4 σ2 = some (r0, σ0) → Wo G skC A0 s σ2 H locs → lv_has ls 2 [(0, .ref (G.2.2.2 + q3)), (1, .ref (G.2.2.2 + q4))] → W p l e ({ frames := 3, cells := 0, slots := 0, locals := 103 } : Room) s m args below meth c H locs 0 0 (MQ below (QO (PoC G skC σ0) A0 none) args s 0 0 A0) (F0 m 21 ls []) := by
    intro q3 q4 σ2 H locs ls h hW hl
    have h := jr3 eJ5 h
    refine lv_aload_n E.1 E.2.1 dX1_remember_21 rfl (lv_at hl 0 rfl) ?_
    obtain ⟨g6, h⟩ := gd_r h
    refine gf_X1_11 E hW g6 dX1_remember_22 ?_
    refine lv_aload_n E.1 E.2.1 dX1_remember_25 rfl (lv_at hl 0 rfl) ?_
    refine gf_X1_18 E hW g6 dX1_remember_26 ?_
    obtain ⟨g7, h⟩ := gd_r h
    refine r_aald (t := 1) (ty := .object "TaylorModels$Models") E hW (pr_eq g7.1) g7.2 rfl rfl (by decide) dX1_remember_29 ?_
    refine lv_aload_n E.1 E.2.1 dX1_remember_30 rfl (lv_at hl 1 rfl) ?_
    obtain ⟨g8, h⟩ := gd_r h
    obtain ⟨_r, σ9, c10, h⟩ := obn_r h
    refine c_V (As := [.ref (G.2.2.2 + q4)]) (rest := []) E hW (m_X3_copyFrom c10) g8 rfl kw_248 wv_X3_copyFrom yo_X3_copyFrom ⟨rfl, rfl⟩ ⟨(Nat.le_of_ble_eq_true rfl), (Nat.le_of_ble_eq_true rfl)⟩ (lv_size hl) (Nat.le_of_ble_eq_true rfl) ⟨(Nat.le_of_ble_eq_true rfl), (Nat.le_of_ble_eq_true rfl)⟩ rfl dX1_remember_31 (fun H locs hW => ?_)
    refine W.eq (g2 := F0 m 34 ls []) rfl ?_
    refine lv_aload_n E.1 E.2.1 dX1_remember_34 rfl (lv_at hl 0 rfl) ?_
    refine lv_aload_n E.1 E.2.1 dX1_remember_35 rfl (lv_at hl 0 rfl) ?_
    refine gf_X1_18 E hW g6 dX1_remember_36 ?_
    refine lv_iconst (v := (1 : Int32)) E.1 E.2.1 dX1_remember_39 (by decide) ?_
    refine lv_iadd E.1 E.2.1 dX1_remember_40 ?_
    refine lv_bipush (v := (8 : Int32)) E.1 E.2.1 dX1_remember_41 (by decide) ?_
    obtain ⟨J15, eJ15, h⟩ := bnd_x h
    have hJ15 : ∀ (q12 : Nat) (x13 : Int32) (q14 : Nat) (σ11 : St) (H : Heap) (locs : List Loc) (ls : Array Slot), J15 q12 x13 q14 σ11 = some (r0, σ0) → Wo G skC A0 s σ11 H locs → lv_has ls 2 [(0, .ref (G.2.2.2 + q12))] → W p l e ({ frames := 3, cells := 0, slots := 0, locals := 103 } : Room) s m args below meth c H locs 0 0 (MQ below (QO (PoC G skC σ0) A0 none) args s 0 0 A0) (F0 m 56 ls [.int x13, .ref (G.2.2.2 + q14)]) := by
      intro q12 x13 q14 σ11 H locs ls h hW hl
      have h := jr4 eJ15 h
      obtain ⟨g16, h⟩ := gd_r h
      refine pf_X1_18 E hW g16 dX1_remember_56 (fun σ17 H locs eσ17 hW => ?_)
      have h := bnd_r eσ17 h
      refine lv_aload_n E.1 E.2.1 dX1_remember_59 rfl (lv_at hl 0 rfl) ?_
      refine lv_aload_n E.1 E.2.1 dX1_remember_60 rfl (lv_at hl 0 rfl) ?_
      obtain ⟨g18, h⟩ := gd_r h
      refine gf_X1_26 E hW g18 dX1_remember_61 ?_
      refine lv_iconst (v := (1 : Int32)) E.1 E.2.1 dX1_remember_64 (by decide) ?_
      refine lv_iadd E.1 E.2.1 dX1_remember_65 ?_
      refine lv_bipush (v := (8 : Int32)) E.1 E.2.1 dX1_remember_66 (by decide) ?_
      refine r_minI E (lv_size hl) ⟨kw_620, kw_509, kw_19, kw_510⟩ ⟨(Nat.le_of_ble_eq_true rfl), (Nat.le_of_ble_eq_true rfl)⟩ ⟨(Nat.le_of_ble_eq_true rfl), (Nat.le_of_ble_eq_true rfl)⟩ dX1_remember_68 ?_
      refine pf_X1_26 E hW g18 dX1_remember_71 (fun σ19 H locs eσ19 hW => ?_)
      have h := bnd_r eσ19 h
      exact e_v E hW hr hlk h dX1_remember_74
    refine lv_icmp_ne (tgt := 50) E.1 E.2.1 dX1_remember_43 (by decide) (fun g => ?_) (fun g => ?_)
    · have h := ifn h g
      refine lv_aload_n E.1 E.2.1 dX1_remember_50 rfl (lv_at hl 0 rfl) ?_
      refine gf_X1_18 E hW g6 dX1_remember_51 ?_
      refine lv_iconst (v := (1 : Int32)) E.1 E.2.1 dX1_remember_54 (by decide) ?_
      refine lv_iadd E.1 E.2.1 dX1_remember_55 ?_
      exact hJ15 _ _ _ _ _ _ _ h hW (lv_sub hl [0] rfl)
    · have h := ifp h g
      refine lv_iconst (v := (0 : Int32)) E.1 E.2.1 dX1_remember_46 (by decide) ?_
      refine lv_goto (tgt := 56) E.1 E.2.1 dX1_remember_47 (by decide) ?_
      exact hJ15 _ _ _ _ _ _ _ h hW (lv_sub hl [0] rfl)
  obtain ⟨J23, eJ23, h⟩ := bnd_x h
  have hJ23 : ∀ (q21 : Nat) (q22 : Nat) (σ20 : St) (H : Heap) (locs : List Loc) (ls : Array Slot), J23 q21 q22 σ20 = some (r0, σ0) → Wo G skC A0 s σ20 H locs → lv_has ls 2 [(0, .ref (G.2.2.2 + q21)), (1, .ref (G.2.2.2 + q22))] → W p l e ({ frames := 3, cells := 0, slots := 0, locals := 103 } : Room) s m args below meth c H locs 0 0 (MQ below (QO (PoC G skC σ0) A0 none) args s 0 0 A0) (F0 m 16 ls []) := by
    intro q21 q22 σ20 H locs ls h hW hl
    have h := jr3 eJ23 h
    refine lv_aload_n E.1 E.2.1 dX1_remember_16 rfl (lv_at hl 0 rfl) ?_
    refine lv_iconst (v := (0 : Int32)) E.1 E.2.1 dX1_remember_17 (by decide) ?_
    obtain ⟨g24, h⟩ := gd_r h
    refine pf_X1_18 E hW g24 dX1_remember_18 (fun σ25 H locs eσ25 hW => ?_)
    have h := bnd_r eσ25 h
    exact hJ5 _ _ _ _ _ _ h hW (lv_sub hl [0, 1] rfl)
  refine lv_if_lt (tgt := 16) E.1 E.2.1 dX1_remember_4 (by decide) (fun g => ?_) (fun g => ?_)
  · have h := ifp h g
    exact hJ23 _ _ _ _ _ _ h hW (lv_sub hl [0, 1] rfl)
  · have h := ifn h g
    refine lv_aload_n E.1 E.2.1 dX1_remember_7 rfl (lv_at hl 0 rfl) ?_
    refine gf_X1_18 E hW g1 dX1_remember_8 ?_
    refine lv_bipush (v := (8 : Int32)) E.1 E.2.1 dX1_remember_11 (by decide) ?_
    refine lv_icmp_lt (tgt := 21) E.1 E.2.1 dX1_remember_13 (by decide) (fun g => ?_) (fun g => ?_)
    · have h := ifp h g
      exact hJ5 _ _ _ _ _ _ h hW (lv_sub hl [0, 1] rfl)
    · have h := ifn h g
      exact hJ23 _ _ _ _ _ _ h hW (lv_sub hl [0, 1] rfl)
set_option maxHeartbeats 4000000 in
set_option maxRecDepth 100000 in
theorem m_X1_restore {l : Launch} {G : GP} {sz : Nat} {q0 : Nat} {q1 : Nat} {σ σ0 : St} {r0 : Int32} (h : f_X1_restore q0 q1 σ = some (r0, σ0)) : Met l yX1_restore [.code yX1_restore cX1_restore 3 (some .boolean)] ({ frames := 3, cells := 0, slots := 0, locals := 103 } : Room) (va_Pc [.ref (G.2.2.2 + q0), .ref (G.2.2.2 + q1)] (PreC G skC sz σ)) (QO (PoC G skC σ0) (Aw G.2.2.2 skC.1 sz) (some (.int r0))) 0 0 (Aw G.2.2.2 skC.1 sz) := by
  refine mkMet (by decide +kernel) (Nat.le_of_ble_eq_true rfl) skC_ok ?_
  intro p e s m below meth c ls E hW hl hr hlk
  have hl : lv_has ls 3 [(0, .ref (G.2.2.2 + q0)), (1, .ref (G.2.2.2 + q1))] := hl
  generalize Aw G.2.2.2 skC.1 s.heap.size = A0 at E hW ⊢
  generalize ([.ref (G.2.2.2 + q0), .ref (G.2.2.2 + q1)] : List Value).toArray = args
  unfold f_X1_restore at h
  refine lv_aload_n E.1 E.2.1 dX1_restore_0 rfl (lv_at hl 0 rfl) ?_
  obtain ⟨g1, h⟩ := gd_r h
  refine gf_X1_26 E hW g1 dX1_restore_1 ?_
  refine lv_if_ne (tgt := 9) E.1 E.2.1 dX1_restore_4 (by decide) (fun g => ?_) (fun g => ?_)
  · have h := ifn h g
    refine lv_aload_n E.1 E.2.1 dX1_restore_9 rfl (lv_at hl 0 rfl) ?_
    refine gf_X1_18 E hW g1 dX1_restore_10 ?_
    obtain ⟨J6, eJ6, h⟩ := bnd_x h
    have hJ6 : ∀ (q3 : Nat) (q4 : Nat) (x5 : Int32) (σ2 : St) (H : Heap) (locs : List Loc) (ls : Array Slot), J6 q3 q4 x5 σ2 = some (r0, σ0) → Wo G skC A0 s σ2 H locs → lv_has ls 3 [(0, .ref (G.2.2.2 + q3)), (1, .ref (G.2.2.2 + q4))] → W p l e ({ frames := 3, cells := 0, slots := 0, locals := 103 } : Room) s m args below meth c H locs 0 0 (MQ below (QO (PoC G skC σ0) A0 (some (.int r0))) args s 0 0 A0) (F0 m 27 ls [.int x5]) := by
      intro q3 q4 x5 σ2 H locs ls h hW hl
      have h := jr4 eJ6 h
      refine lv_istore_n (lv' := [(2, .int x5), (0, .ref (G.2.2.2 + q3)), (1, .ref (G.2.2.2 + q4))]) E.1 E.2.1 dX1_restore_27 rfl hl (by decide) rfl (fun ls hl => ?_)
      refine lv_iload_n E.1 E.2.1 dX1_restore_28 rfl (lv_at hl 0 rfl) ?_
      refine lv_if_lt (tgt := 38) E.1 E.2.1 dX1_restore_29 (by decide) (fun g => ?_) (fun g => ?_)
      · have h := ifp h g
        refine lv_iconst (v := (0 : Int32)) E.1 E.2.1 dX1_restore_38 (by decide) ?_
        exact e_z E hW hr hlk (by decide) h dX1_restore_39
      · have h := ifn h g
        refine lv_iload_n E.1 E.2.1 dX1_restore_32 rfl (lv_at hl 0 rfl) ?_
        refine lv_bipush (v := (8 : Int32)) E.1 E.2.1 dX1_restore_33 (by decide) ?_
        refine lv_icmp_lt (tgt := 40) E.1 E.2.1 dX1_restore_35 (by decide) (fun g => ?_) (fun g => ?_)
        · have h := ifp h g
          refine lv_aload_n E.1 E.2.1 dX1_restore_40 rfl (lv_at hl 2 rfl) ?_
          refine lv_aload_n E.1 E.2.1 dX1_restore_41 rfl (lv_at hl 1 rfl) ?_
          obtain ⟨g7, h⟩ := gd_r h
          refine gf_X1_11 E hW g7 dX1_restore_42 ?_
          refine lv_iload_n E.1 E.2.1 dX1_restore_45 rfl (lv_at hl 0 rfl) ?_
          obtain ⟨g8, h⟩ := gd_r h
          refine r_aald (t := 1) (ty := .object "TaylorModels$Models") E hW (pr_eq g8.1) g8.2 rfl rfl (by decide) dX1_restore_46 ?_
          obtain ⟨g9, h⟩ := gd_r h
          obtain ⟨_r, σ10, c11, h⟩ := obn_r h
          refine c_V (As := [.ref (G.2.2.2 + (rC (rC q3 0) x5.toNatClampNeg))]) (rest := []) E hW (m_X3_copyFrom c11) g9 rfl kw_248 wv_X3_copyFrom yo_X3_copyFrom ⟨rfl, rfl⟩ ⟨(Nat.le_of_ble_eq_true rfl), (Nat.le_of_ble_eq_true rfl)⟩ (lv_size hl) (Nat.le_of_ble_eq_true rfl) ⟨(Nat.le_of_ble_eq_true rfl), (Nat.le_of_ble_eq_true rfl)⟩ rfl dX1_restore_47 (fun H locs hW => ?_)
          refine W.eq (g2 := F0 m 50 ls []) rfl ?_
          refine lv_aload_n E.1 E.2.1 dX1_restore_50 rfl (lv_at hl 1 rfl) ?_
          refine lv_iload_n E.1 E.2.1 dX1_restore_51 rfl (lv_at hl 0 rfl) ?_
          refine pf_X1_18 E hW g7 dX1_restore_52 (fun σ12 H locs eσ12 hW => ?_)
          have h := bnd_r eσ12 h
          refine lv_aload_n E.1 E.2.1 dX1_restore_55 rfl (lv_at hl 1 rfl) ?_
          refine lv_dup E.1 E.2.1 dX1_restore_56 rfl ?_
          refine gf_X1_26 E hW g7 dX1_restore_57 ?_
          refine lv_iconst (v := (1 : Int32)) E.1 E.2.1 dX1_restore_60 (by decide) ?_
          refine lv_isub E.1 E.2.1 dX1_restore_61 ?_
          refine pf_X1_26 E hW g7 dX1_restore_62 (fun σ13 H locs eσ13 hW => ?_)
          have h := bnd_r eσ13 h
          refine lv_iconst (v := (1 : Int32)) E.1 E.2.1 dX1_restore_65 (by decide) ?_
          exact e_z E hW hr hlk (by decide) h dX1_restore_66
        · have h := ifn h g
          refine lv_iconst (v := (0 : Int32)) E.1 E.2.1 dX1_restore_38 (by decide) ?_
          exact e_z E hW hr hlk (by decide) h dX1_restore_39
    refine lv_if_ne (tgt := 21) E.1 E.2.1 dX1_restore_13 (by decide) (fun g => ?_) (fun g => ?_)
    · have h := ifn h g
      refine lv_aload_n E.1 E.2.1 dX1_restore_21 rfl (lv_at hl 0 rfl) ?_
      refine gf_X1_18 E hW g1 dX1_restore_22 ?_
      refine lv_iconst (v := (1 : Int32)) E.1 E.2.1 dX1_restore_25 (by decide) ?_
      refine lv_isub E.1 E.2.1 dX1_restore_26 ?_
      exact hJ6 _ _ _ _ _ _ _ h hW (lv_sub hl [0, 1] rfl)
    · have h := ifp h g
      refine lv_bipush (v := (7 : Int32)) E.1 E.2.1 dX1_restore_16 (by decide) ?_
      refine lv_goto (tgt := 27) E.1 E.2.1 dX1_restore_18 (by decide) ?_
      exact hJ6 _ _ _ _ _ _ _ h hW (lv_sub hl [0, 1] rfl)
  · have h := ifp h g
    refine lv_iconst (v := (0 : Int32)) E.1 E.2.1 dX1_restore_7 (by decide) ?_
    exact e_z E hW hr hlk (by decide) h dX1_restore_8
set_option maxHeartbeats 4000000 in
set_option maxRecDepth 100000 in
theorem m_X2_setCoefficientAt {l : Launch} {G : GP} {sz : Nat} {q0 : Nat} {a1 : Int32} {a2 : Int64} {σ σ0 : St} {r0 : Unit} (h : f_X2_setCoefficientAt q0 a1 a2 σ = some (r0, σ0)) : Met l yX2_setCoefficientAt [.code yX2_setCoefficientAt cX2_setCoefficientAt 4 none] ({ frames := 0, cells := 0, slots := 0, locals := 0 } : Room) (va_Pc [.ref (G.2.2.2 + q0), .int a1, .long a2] (PreC G skC sz σ)) (QO (PoC G skC σ0) (Aw G.2.2.2 skC.1 sz) none) 0 0 (Aw G.2.2.2 skC.1 sz) := by
  refine mkMet (by decide +kernel) (Nat.le_of_ble_eq_true rfl) skC_ok ?_
  intro p e s m below meth c ls E hW hl hr hlk
  have hl : lv_has ls 4 [(0, .ref (G.2.2.2 + q0)), (1, .int a1), (2, .long a2)] := hl
  generalize Aw G.2.2.2 skC.1 s.heap.size = A0 at E hW ⊢
  generalize ([.ref (G.2.2.2 + q0), .int a1, .long a2] : List Value).toArray = args
  unfold f_X2_setCoefficientAt at h
  refine lv_iload_n E.1 E.2.1 dX2_setCoefficientAt_0 rfl (lv_at hl 1 rfl) ?_
  refine lv_if_lt (tgt := 17) E.1 E.2.1 dX2_setCoefficientAt_1 (by decide) (fun g => ?_) (fun g => ?_)
  · have h := ifp h g
    exact e_v E hW hr hlk h dX2_setCoefficientAt_17
  · have h := ifn h g
    refine lv_iload_n E.1 E.2.1 dX2_setCoefficientAt_4 rfl (lv_at hl 1 rfl) ?_
    refine lv_bipush (v := (10 : Int32)) E.1 E.2.1 dX2_setCoefficientAt_5 (by decide) ?_
    refine lv_icmp_ge (tgt := 17) E.1 E.2.1 dX2_setCoefficientAt_7 (by decide) (fun g => ?_) (fun g => ?_)
    · have h := ifp h g
      exact e_v E hW hr hlk h dX2_setCoefficientAt_17
    · have h := ifn h g
      refine lv_aload_n E.1 E.2.1 dX2_setCoefficientAt_10 rfl (lv_at hl 0 rfl) ?_
      obtain ⟨g1, h⟩ := gd_r h
      refine gf_X2_9 E hW g1 dX2_setCoefficientAt_11 ?_
      refine lv_iload_n E.1 E.2.1 dX2_setCoefficientAt_14 rfl (lv_at hl 1 rfl) ?_
      refine lv_lload_n E.1 E.2.1 dX2_setCoefficientAt_15 rfl (lv_at hl 2 rfl) ?_
      obtain ⟨g2, h⟩ := gd_r h
      refine r_last E hW (pr_eq g2.1) g2.2 dX2_setCoefficientAt_16 (fun σ3 H locs eσ3 hW => ?_)
      have h := bnd_r eσ3 h
      exact e_v E hW hr hlk h dX2_setCoefficientAt_17
set_option maxHeartbeats 4000000 in
set_option maxRecDepth 100000 in
theorem m_X2_becomeVariable {l : Launch} {G : GP} {sz : Nat} {q0 : Nat} {a1 : Int32} {σ σ0 : St} {r0 : Unit} (h : f_X2_becomeVariable q0 a1 σ = some (r0, σ0)) : Met l yX2_becomeVariable [.code yX2_becomeVariable cX2_becomeVariable 2 none] ({ frames := 2, cells := 0, slots := 0, locals := 46 } : Room) (va_Pc [.ref (G.2.2.2 + q0), .int a1] (PreC G skC sz σ)) (QO (PoC G skC σ0) (Aw G.2.2.2 skC.1 sz) none) 0 0 (Aw G.2.2.2 skC.1 sz) := by
  refine mkMet (by decide +kernel) (Nat.le_of_ble_eq_true rfl) skC_ok ?_
  intro p e s m below meth c ls E hW hl hr hlk
  have hl : lv_has ls 2 [(0, .ref (G.2.2.2 + q0)), (1, .int a1)] := hl
  generalize Aw G.2.2.2 skC.1 s.heap.size = A0 at E hW ⊢
  generalize ([.ref (G.2.2.2 + q0), .int a1] : List Value).toArray = args
  unfold f_X2_becomeVariable at h
  refine lv_aload_n E.1 E.2.1 dX2_becomeVariable_0 rfl (lv_at hl 0 rfl) ?_
  refine lv_lconst (v := (0 : Int64)) E.1 E.2.1 dX2_becomeVariable_1 (by decide) ?_
  obtain ⟨g1, h⟩ := gd_r h
  obtain ⟨_r, σ2, c3, h⟩ := obn_r h
  refine c_V (As := [.long (0 : Int64)]) (rest := []) E hW (m_X2_becomeConstant c3) g1 rfl kw_448 wv_X2_becomeConstant yo_X2_becomeConstant ⟨rfl, rfl⟩ ⟨(Nat.le_of_ble_eq_true rfl), (Nat.le_of_ble_eq_true rfl)⟩ (lv_size hl) (Nat.le_of_ble_eq_true rfl) ⟨(Nat.le_of_ble_eq_true rfl), (Nat.le_of_ble_eq_true rfl)⟩ rfl dX2_becomeVariable_2 (fun H locs hW => ?_)
  refine W.eq (g2 := F0 m 5 ls []) rfl ?_
  refine lv_aload_n E.1 E.2.1 dX2_becomeVariable_5 rfl (lv_at hl 0 rfl) ?_
  refine lv_iload_n E.1 E.2.1 dX2_becomeVariable_6 rfl (lv_at hl 1 rfl) ?_
  refine lv_ldc2 (v := (1000 : Int64)) E.1 E.2.1 E.2.2.2.1 (E.wd kw_455) dX2_becomeVariable_7 ?_
  obtain ⟨_r, σ4, c5, h⟩ := obn_r h
  refine c_V (As := [.int a1, .long (1000 : Int64)]) (rest := []) E hW (m_X2_setCoefficientAt c5) g1 rfl kw_456 wv_X2_setCoefficientAt yo_X2_setCoefficientAt ⟨rfl, rfl⟩ ⟨(Nat.le_of_ble_eq_true rfl), (Nat.le_of_ble_eq_true rfl)⟩ (lv_size hl) (Nat.le_of_ble_eq_true rfl) ⟨(Nat.le_of_ble_eq_true rfl), (Nat.le_of_ble_eq_true rfl)⟩ rfl dX2_becomeVariable_10 (fun H locs hW => ?_)
  refine W.eq (g2 := F0 m 13 ls []) rfl ?_
  exact e_v E hW hr hlk h dX2_becomeVariable_13
set_option maxHeartbeats 4000000 in
set_option maxRecDepth 100000 in
theorem m_X2_coefficientAt {l : Launch} {G : GP} {sz : Nat} {q0 : Nat} {a1 : Int32} {σ σ0 : St} {r0 : Int64} (h : f_X2_coefficientAt q0 a1 σ = some (r0, σ0)) : Met l yX2_coefficientAt [.code yX2_coefficientAt cX2_coefficientAt 2 (some .long)] ({ frames := 0, cells := 0, slots := 0, locals := 0 } : Room) (va_Pc [.ref (G.2.2.2 + q0), .int a1] (PreC G skC sz σ)) (QO (PoC G skC σ0) (Aw G.2.2.2 skC.1 sz) (some (.long r0))) 0 0 (Aw G.2.2.2 skC.1 sz) := by
  refine mkMet (by decide +kernel) (Nat.le_of_ble_eq_true rfl) skC_ok ?_
  intro p e s m below meth c ls E hW hl hr hlk
  have hl : lv_has ls 2 [(0, .ref (G.2.2.2 + q0)), (1, .int a1)] := hl
  generalize Aw G.2.2.2 skC.1 s.heap.size = A0 at E hW ⊢
  generalize ([.ref (G.2.2.2 + q0), .int a1] : List Value).toArray = args
  unfold f_X2_coefficientAt at h
  refine lv_iload_n E.1 E.2.1 dX2_coefficientAt_0 rfl (lv_at hl 1 rfl) ?_
  refine lv_if_lt (tgt := 19) E.1 E.2.1 dX2_coefficientAt_1 (by decide) (fun g => ?_) (fun g => ?_)
  · have h := ifp h g
    refine lv_lconst (v := (0 : Int64)) E.1 E.2.1 dX2_coefficientAt_19 (by decide) ?_
    exact e_j E hW hr hlk h dX2_coefficientAt_20
  · have h := ifn h g
    refine lv_iload_n E.1 E.2.1 dX2_coefficientAt_4 rfl (lv_at hl 1 rfl) ?_
    refine lv_bipush (v := (10 : Int32)) E.1 E.2.1 dX2_coefficientAt_5 (by decide) ?_
    refine lv_icmp_ge (tgt := 19) E.1 E.2.1 dX2_coefficientAt_7 (by decide) (fun g => ?_) (fun g => ?_)
    · have h := ifp h g
      refine lv_lconst (v := (0 : Int64)) E.1 E.2.1 dX2_coefficientAt_19 (by decide) ?_
      exact e_j E hW hr hlk h dX2_coefficientAt_20
    · have h := ifn h g
      refine lv_aload_n E.1 E.2.1 dX2_coefficientAt_10 rfl (lv_at hl 0 rfl) ?_
      obtain ⟨g1, h⟩ := gd_r h
      refine gf_X2_9 E hW g1 dX2_coefficientAt_11 ?_
      refine lv_iload_n E.1 E.2.1 dX2_coefficientAt_14 rfl (lv_at hl 1 rfl) ?_
      obtain ⟨g2, h⟩ := gd_r h
      refine r_lald E hW (pr_eq g2.1) g2.2 dX2_coefficientAt_15 ?_
      refine lv_goto (tgt := 20) E.1 E.2.1 dX2_coefficientAt_16 (by decide) ?_
      exact e_j E hW hr hlk h dX2_coefficientAt_20
set_option maxHeartbeats 4000000 in
set_option maxRecDepth 100000 in
theorem m_X2_width {l : Launch} {G : GP} {sz : Nat} {q0 : Nat} {σ σ0 : St} {r0 : Int32} (h : f_X2_width q0 σ = some (r0, σ0)) : Met l yX2_width [.code yX2_width cX2_width 1 (some .int)] ({ frames := 0, cells := 0, slots := 0, locals := 0 } : Room) (va_Pc [.ref (G.2.2.2 + q0)] (PreC G skC sz σ)) (QO (PoC G skC σ0) (Aw G.2.2.2 skC.1 sz) (some (.int r0))) 0 0 (Aw G.2.2.2 skC.1 sz) := by
  refine mkMet (by decide +kernel) (Nat.le_of_ble_eq_true rfl) skC_ok ?_
  intro p e s m below meth c ls E hW hl hr hlk
  have hl : lv_has ls 1 [(0, .ref (G.2.2.2 + q0))] := hl
  generalize Aw G.2.2.2 skC.1 s.heap.size = A0 at E hW ⊢
  generalize ([.ref (G.2.2.2 + q0)] : List Value).toArray = args
  unfold f_X2_width at h
  refine lv_aload_n E.1 E.2.1 dX2_width_0 rfl (lv_at hl 0 rfl) ?_
  obtain ⟨g1, h⟩ := gd_r h
  refine gf_X2_25 E hW g1 dX2_width_1 ?_
  refine lv_aload_n E.1 E.2.1 dX2_width_4 rfl (lv_at hl 0 rfl) ?_
  refine gf_X2_21 E hW g1 dX2_width_5 ?_
  refine lv_lsub E.1 E.2.1 dX2_width_8 ?_
  refine lv_l2i E.1 E.2.1 dX2_width_9 rfl ?_
  exact e_i E hW hr hlk h dX2_width_10
set_option maxHeartbeats 4000000 in
set_option maxRecDepth 100000 in
theorem m_X2_boundLow {l : Launch} {G : GP} {sz : Nat} {q0 : Nat} {σ σ0 : St} {r0 : Int64} (h : f_X2_boundLow q0 σ = some (r0, σ0)) : Met l yX2_boundLow [.code yX2_boundLow cX2_boundLow 1 (some .long)] ({ frames := 2, cells := 0, slots := 0, locals := 47 } : Room) (va_Pc [.ref (G.2.2.2 + q0)] (PreC G skC sz σ)) (QO (PoC G skC σ0) (Aw G.2.2.2 skC.1 sz) (some (.long r0))) 0 0 (Aw G.2.2.2 skC.1 sz) := by
  refine mkMet (by decide +kernel) (Nat.le_of_ble_eq_true rfl) skC_ok ?_
  intro p e s m below meth c ls E hW hl hr hlk
  have hl : lv_has ls 1 [(0, .ref (G.2.2.2 + q0))] := hl
  generalize Aw G.2.2.2 skC.1 s.heap.size = A0 at E hW ⊢
  generalize ([.ref (G.2.2.2 + q0)] : List Value).toArray = args
  unfold f_X2_boundLow at h
  refine lv_aload_n E.1 E.2.1 dX2_boundLow_0 rfl (lv_at hl 0 rfl) ?_
  obtain ⟨g1, h⟩ := gd_r h
  obtain ⟨x3, σ2, c4, h⟩ := obn_r h
  refine c_V (As := []) (rest := []) E hW (m_X2_spreadLow c4) g1 rfl kw_565 wv_X2_spreadLow yo_X2_spreadLow ⟨rfl, rfl⟩ ⟨(Nat.le_of_ble_eq_true rfl), (Nat.le_of_ble_eq_true rfl)⟩ (lv_size hl) (Nat.le_of_ble_eq_true rfl) ⟨(Nat.le_of_ble_eq_true rfl), (Nat.le_of_ble_eq_true rfl)⟩ rfl dX2_boundLow_1 (fun H locs hW => ?_)
  refine W.eq (g2 := F0 m 4 ls [.long x3]) rfl ?_
  refine lv_aload_n E.1 E.2.1 dX2_boundLow_4 rfl (lv_at hl 0 rfl) ?_
  refine gf_X2_21 E hW g1 dX2_boundLow_5 ?_
  refine lv_ladd E.1 E.2.1 dX2_boundLow_8 ?_
  exact e_j E hW hr hlk h dX2_boundLow_9
set_option maxHeartbeats 4000000 in
set_option maxRecDepth 100000 in
theorem m_X2_boundHigh {l : Launch} {G : GP} {sz : Nat} {q0 : Nat} {σ σ0 : St} {r0 : Int64} (h : f_X2_boundHigh q0 σ = some (r0, σ0)) : Met l yX2_boundHigh [.code yX2_boundHigh cX2_boundHigh 1 (some .long)] ({ frames := 2, cells := 0, slots := 0, locals := 47 } : Room) (va_Pc [.ref (G.2.2.2 + q0)] (PreC G skC sz σ)) (QO (PoC G skC σ0) (Aw G.2.2.2 skC.1 sz) (some (.long r0))) 0 0 (Aw G.2.2.2 skC.1 sz) := by
  refine mkMet (by decide +kernel) (Nat.le_of_ble_eq_true rfl) skC_ok ?_
  intro p e s m below meth c ls E hW hl hr hlk
  have hl : lv_has ls 1 [(0, .ref (G.2.2.2 + q0))] := hl
  generalize Aw G.2.2.2 skC.1 s.heap.size = A0 at E hW ⊢
  generalize ([.ref (G.2.2.2 + q0)] : List Value).toArray = args
  unfold f_X2_boundHigh at h
  refine lv_aload_n E.1 E.2.1 dX2_boundHigh_0 rfl (lv_at hl 0 rfl) ?_
  obtain ⟨g1, h⟩ := gd_r h
  obtain ⟨x3, σ2, c4, h⟩ := obn_r h
  refine c_V (As := []) (rest := []) E hW (m_X2_spreadHigh c4) g1 rfl kw_571 wv_X2_spreadHigh yo_X2_spreadHigh ⟨rfl, rfl⟩ ⟨(Nat.le_of_ble_eq_true rfl), (Nat.le_of_ble_eq_true rfl)⟩ (lv_size hl) (Nat.le_of_ble_eq_true rfl) ⟨(Nat.le_of_ble_eq_true rfl), (Nat.le_of_ble_eq_true rfl)⟩ rfl dX2_boundHigh_1 (fun H locs hW => ?_)
  refine W.eq (g2 := F0 m 4 ls [.long x3]) rfl ?_
  refine lv_aload_n E.1 E.2.1 dX2_boundHigh_4 rfl (lv_at hl 0 rfl) ?_
  refine gf_X2_25 E hW g1 dX2_boundHigh_5 ?_
  refine lv_ladd E.1 E.2.1 dX2_boundHigh_8 ?_
  exact e_j E hW hr hlk h dX2_boundHigh_9
set_option maxHeartbeats 4000000 in
set_option maxRecDepth 100000 in
theorem L_X2_valueInBillionths_25 {p : Program} {l : Launch} {e : Env} {s : State} {m : MethodId} {args : Array Value} {below : List Frame} {meth : Method} {c : Code} {G : GP} {A0 : Nat → Prop} {σ0 : St} {r0 : Int64} {K92 : Nat → Int64 → Int64 → Int64 → Int32 → Int64 → St → Option (Int64 × St)} (E : En p m c s cX2_valueInBillionths 11 yX2_valueInBillionths.cls G A0) (hr : meth.sig.returnType = (some .long)) (hlk : meth.locks = false) (hK92 : ∀ (q20 : Nat) (x21 : Int64) (x22 : Int64) (x23 : Int64) (x24 : Int32) (x25 : Int64) (σ19 : St) (H : Heap) (locs : List Loc) (ls : Array Slot), K92 q20 x21 x22 x23 x24 x25 σ19 = some (r0, σ0) → Wo G skC A0 s σ19 H locs → lv_has ls 11 [(0, .ref (G.2.2.2 + q20)), (1, .long x21), (3, .long x22), (5, .long x23), (7, .int x24), (8, .long x25)] → W p l e ({ frames := 0, cells := 0, slots := 0, locals := 0 } : Room) s m args below meth c H locs 0 0 (MQ below (QO (PoC G skC σ0) A0 (some (.long r0))) args s 0 0 A0) (F0 m 92 ls [])) : ∀ (n26 : Nat) (q12 : Nat) (x13 : Int64) (x14 : Int64) (x15 : Int64) (x16 : Int32) (x17 : Int64) (x18 : Int32) (σ11 : St) (H : Heap) (locs : List Loc) (ls : Array Slot), f_X2_valueInBillionths_L25 K92 n26 q12 x13 x14 x15 x16 x17 x18 σ11 = some (r0, σ0) → Wo G skC A0 s σ11 H locs → lv_has ls 11 [(0, .ref (G.2.2.2 + q12)), (1, .long x13), (3, .long x14), (5, .long x15), (7, .int x16), (8, .long x17), (10, .int x18)] → W p l e ({ frames := 0, cells := 0, slots := 0, locals := 0 } : Room) s m args below meth c H locs 0 0 (MQ below (QO (PoC G skC σ0) A0 (some (.long r0))) args s 0 0 A0) (F0 m 25 ls []) := by
  intro n26
  induction n26 with
  | zero =>
    intro q12 x13 x14 x15 x16 x17 x18 σ11 H locs ls h hW hl
    rw [f_X2_valueInBillionths_L25] at h
    cases h
  | succ n26 ih =>
    intro q12 x13 x14 x15 x16 x17 x18 σ11 H locs ls h hW hl
    rw [f_X2_valueInBillionths_L25] at h
    refine lv_iload E.1 E.2.1 dX2_valueInBillionths_25 (lv_at hl 6 rfl) ?_
    refine lv_iconst (v := (3 : Int32)) E.1 E.2.1 dX2_valueInBillionths_27 (by decide) ?_
    refine lv_icmp_ge (tgt := 92) E.1 E.2.1 dX2_valueInBillionths_28 (by decide) (fun g => ?_) (fun g => ?_)
    · have h := ifp h g
      exact hK92 _ _ _ _ _ _ _ _ _ _ h hW (lv_sub hl [0, 1, 2, 3, 4, 5] rfl)
    · have h := ifn h g
      refine lv_iload E.1 E.2.1 dX2_valueInBillionths_31 (lv_at hl 6 rfl) ?_
      refine r_getsN E hW 0 (by decide) rfl kw_732 dX2_valueInBillionths_33 (fun t27 Tt27 => ?_)
      refine lv_iload E.1 E.2.1 dX2_valueInBillionths_36 (lv_at hl 4 rfl) ?_
      obtain ⟨g28, h⟩ := gd_r h
      refine r_tald E hW 0 Tt27 g28 dX2_valueInBillionths_38 ?_
      refine lv_icmp_ge (tgt := 51) E.1 E.2.1 dX2_valueInBillionths_39 (by decide) (fun g => ?_) (fun g => ?_)
      · have h := ifp h g
        refine lv_iload E.1 E.2.1 dX2_valueInBillionths_51 (lv_at hl 6 rfl) ?_
        refine r_getsN E hW 0 (by decide) rfl kw_732 dX2_valueInBillionths_53 (fun t29 Tt29 => ?_)
        refine lv_iload E.1 E.2.1 dX2_valueInBillionths_56 (lv_at hl 4 rfl) ?_
        refine r_tald E hW 0 Tt29 g28 dX2_valueInBillionths_58 ?_
        refine r_getsN E hW 1 (by decide) rfl kw_733 dX2_valueInBillionths_59 (fun t30 Tt30 => ?_)
        refine lv_iload E.1 E.2.1 dX2_valueInBillionths_62 (lv_at hl 4 rfl) ?_
        obtain ⟨g31, h⟩ := gd_r h
        refine r_tald E hW 1 Tt30 g31 dX2_valueInBillionths_64 ?_
        refine lv_iadd E.1 E.2.1 dX2_valueInBillionths_65 ?_
        refine lv_icmp_ge (tgt := 78) E.1 E.2.1 dX2_valueInBillionths_66 (by decide) (fun g => ?_) (fun g => ?_)
        · have h := ifp h g
          refine lv_lload E.1 E.2.1 dX2_valueInBillionths_78 (lv_at hl 5 rfl) ?_
          refine lv_ldc2 (v := (1000 : Int64)) E.1 E.2.1 E.2.2.2.1 (E.wd kw_455) dX2_valueInBillionths_80 ?_
          refine lv_lmul E.1 E.2.1 dX2_valueInBillionths_83 ?_
          refine lv_topl (fun x32 ex32 => ?_)
          have h := bnd_r ex32 h
          refine lv_lstore (lv' := [(8, .long x32), (0, .ref (G.2.2.2 + q12)), (1, .long x13), (3, .long x14), (5, .long x15), (7, .int x16), (10, .int x18)]) E.1 E.2.1 dX2_valueInBillionths_84 hl (by decide) rfl (fun ls hl => ?_)
          obtain ⟨x33, ex33⟩ : ∃ y : Int32, y = x18 + (1 : Int32) := ⟨_, rfl⟩
          have h := bnd_r ex33 h
          refine lv_iinc (v := x33) (lv' := [(10, .int x33), (8, .long x32), (0, .ref (G.2.2.2 + q12)), (1, .long x13), (3, .long x14), (5, .long x15), (7, .int x16)]) E.1 E.2.1 dX2_valueInBillionths_86 hl (k := 6) rfl (by rw [ex33]; rfl) (by decide) rfl (fun ls hl => ?_)
          refine lv_goto (tgt := 25) E.1 E.2.1 dX2_valueInBillionths_89 (by decide) ?_
          exact ih _ _ _ _ _ _ _ _ _ _ _ h hW (lv_sub hl [2, 3, 4, 5, 6, 1, 0] rfl)
        · have h := ifn h g
          refine lv_lload E.1 E.2.1 dX2_valueInBillionths_69 (lv_at hl 5 rfl) ?_
          refine lv_lload_n E.1 E.2.1 dX2_valueInBillionths_71 rfl (lv_at hl 2 rfl) ?_
          refine lv_lmul E.1 E.2.1 dX2_valueInBillionths_72 ?_
          refine lv_topl (fun x34 ex34 => ?_)
          have h := bnd_r ex34 h
          refine lv_lstore (lv' := [(8, .long x34), (0, .ref (G.2.2.2 + q12)), (1, .long x13), (3, .long x14), (5, .long x15), (7, .int x16), (10, .int x18)]) E.1 E.2.1 dX2_valueInBillionths_73 hl (by decide) rfl (fun ls hl => ?_)
          refine lv_goto (tgt := 86) E.1 E.2.1 dX2_valueInBillionths_75 (by decide) ?_
          obtain ⟨x35, ex35⟩ : ∃ y : Int32, y = x18 + (1 : Int32) := ⟨_, rfl⟩
          have h := bnd_r ex35 h
          refine lv_iinc (v := x35) (lv' := [(10, .int x35), (8, .long x34), (0, .ref (G.2.2.2 + q12)), (1, .long x13), (3, .long x14), (5, .long x15), (7, .int x16)]) E.1 E.2.1 dX2_valueInBillionths_86 hl (k := 6) rfl (by rw [ex35]; rfl) (by decide) rfl (fun ls hl => ?_)
          refine lv_goto (tgt := 25) E.1 E.2.1 dX2_valueInBillionths_89 (by decide) ?_
          exact ih _ _ _ _ _ _ _ _ _ _ _ h hW (lv_sub hl [2, 3, 4, 5, 6, 1, 0] rfl)
      · have h := ifn h g
        refine lv_lload E.1 E.2.1 dX2_valueInBillionths_42 (lv_at hl 5 rfl) ?_
        refine lv_lload_n E.1 E.2.1 dX2_valueInBillionths_44 rfl (lv_at hl 1 rfl) ?_
        refine lv_lmul E.1 E.2.1 dX2_valueInBillionths_45 ?_
        refine lv_topl (fun x36 ex36 => ?_)
        have h := bnd_r ex36 h
        refine lv_lstore (lv' := [(8, .long x36), (0, .ref (G.2.2.2 + q12)), (1, .long x13), (3, .long x14), (5, .long x15), (7, .int x16), (10, .int x18)]) E.1 E.2.1 dX2_valueInBillionths_46 hl (by decide) rfl (fun ls hl => ?_)
        refine lv_goto (tgt := 86) E.1 E.2.1 dX2_valueInBillionths_48 (by decide) ?_
        obtain ⟨x37, ex37⟩ : ∃ y : Int32, y = x18 + (1 : Int32) := ⟨_, rfl⟩
        have h := bnd_r ex37 h
        refine lv_iinc (v := x37) (lv' := [(10, .int x37), (8, .long x36), (0, .ref (G.2.2.2 + q12)), (1, .long x13), (3, .long x14), (5, .long x15), (7, .int x16)]) E.1 E.2.1 dX2_valueInBillionths_86 hl (k := 6) rfl (by rw [ex37]; rfl) (by decide) rfl (fun ls hl => ?_)
        refine lv_goto (tgt := 25) E.1 E.2.1 dX2_valueInBillionths_89 (by decide) ?_
        exact ih _ _ _ _ _ _ _ _ _ _ _ h hW (lv_sub hl [2, 3, 4, 5, 6, 1, 0] rfl)
set_option maxHeartbeats 4000000 in
set_option maxRecDepth 100000 in
theorem L_X2_valueInBillionths_6 {p : Program} {l : Launch} {e : Env} {s : State} {m : MethodId} {args : Array Value} {below : List Frame} {meth : Method} {c : Code} {G : GP} {A0 : Nat → Prop} {σ0 : St} {r0 : Int64} (E : En p m c s cX2_valueInBillionths 11 yX2_valueInBillionths.cls G A0) (hr : meth.sig.returnType = (some .long)) (hlk : meth.locks = false) : ∀ (n7 : Nat) (q2 : Nat) (x3 : Int64) (x4 : Int64) (x5 : Int64) (x6 : Int32) (σ1 : St) (H : Heap) (locs : List Loc) (ls : Array Slot), f_X2_valueInBillionths_L6 n7 q2 x3 x4 x5 x6 σ1 = some (r0, σ0) → Wo G skC A0 s σ1 H locs → lv_has ls 11 [(0, .ref (G.2.2.2 + q2)), (1, .long x3), (3, .long x4), (5, .long x5), (7, .int x6)] → W p l e ({ frames := 0, cells := 0, slots := 0, locals := 0 } : Room) s m args below meth c H locs 0 0 (MQ below (QO (PoC G skC σ0) A0 (some (.long r0))) args s 0 0 A0) (F0 m 6 ls []) := by
  intro n7
  induction n7 with
  | zero =>
    intro q2 x3 x4 x5 x6 σ1 H locs ls h hW hl
    rw [f_X2_valueInBillionths_L6] at h
    cases h
  | succ n7 ih =>
    intro q2 x3 x4 x5 x6 σ1 H locs ls h hW hl
    rw [f_X2_valueInBillionths_L6] at h
    refine lv_iload E.1 E.2.1 dX2_valueInBillionths_6 (lv_at hl 4 rfl) ?_
    refine lv_bipush (v := (10 : Int32)) E.1 E.2.1 dX2_valueInBillionths_8 (by decide) ?_
    refine lv_icmp_ge (tgt := 105) E.1 E.2.1 dX2_valueInBillionths_10 (by decide) (fun g => ?_) (fun g => ?_)
    · have h := ifp h g
      refine lv_lload E.1 E.2.1 dX2_valueInBillionths_105 (lv_at hl 3 rfl) ?_
      exact e_j E hW hr hlk h dX2_valueInBillionths_107
    · have h := ifn h g
      refine lv_aload_n E.1 E.2.1 dX2_valueInBillionths_13 rfl (lv_at hl 0 rfl) ?_
      obtain ⟨g8, h⟩ := gd_r h
      refine gf_X2_9 E hW g8 dX2_valueInBillionths_14 ?_
      refine lv_iload E.1 E.2.1 dX2_valueInBillionths_17 (lv_at hl 4 rfl) ?_
      obtain ⟨g9, h⟩ := gd_r h
      refine r_lald E hW (pr_eq g9.1) g9.2 dX2_valueInBillionths_19 ?_
      refine lv_topl (fun x10 ex10 => ?_)
      have h := bnd_r ex10 h
      refine lv_lstore (lv' := [(8, .long x10), (0, .ref (G.2.2.2 + q2)), (1, .long x3), (3, .long x4), (5, .long x5), (7, .int x6)]) E.1 E.2.1 dX2_valueInBillionths_20 hl (by decide) rfl (fun ls hl => ?_)
      refine lv_iconst (v := (0 : Int32)) E.1 E.2.1 dX2_valueInBillionths_22 (by decide) ?_
      refine lv_istore (lv' := [(10, .int (0 : Int32)), (8, .long x10), (0, .ref (G.2.2.2 + q2)), (1, .long x3), (3, .long x4), (5, .long x5), (7, .int x6)]) E.1 E.2.1 dX2_valueInBillionths_23 hl (by decide) rfl (fun ls hl => ?_)
      refine L_X2_valueInBillionths_25 E hr hlk ?_ _ _ _ _ _ _ _ _ _ _ _ _ h hW (lv_sub hl [2, 3, 4, 5, 6, 1, 0] rfl)
      · intro q20 x21 x22 x23 x24 x25 σ19 H locs ls h hW hl
        refine lv_lload E.1 E.2.1 dX2_valueInBillionths_92 (lv_at hl 3 rfl) ?_
        refine lv_lload E.1 E.2.1 dX2_valueInBillionths_94 (lv_at hl 5 rfl) ?_
        refine lv_ladd E.1 E.2.1 dX2_valueInBillionths_96 ?_
        refine lv_topl (fun x38 ex38 => ?_)
        have h := bnd_r ex38 h
        refine lv_lstore (lv' := [(5, .long x38), (0, .ref (G.2.2.2 + q20)), (1, .long x21), (3, .long x22), (7, .int x24), (8, .long x25)]) E.1 E.2.1 dX2_valueInBillionths_97 hl (by decide) rfl (fun ls hl => ?_)
        obtain ⟨x39, ex39⟩ : ∃ y : Int32, y = x24 + (1 : Int32) := ⟨_, rfl⟩
        have h := bnd_r ex39 h
        refine lv_iinc (v := x39) (lv' := [(7, .int x39), (5, .long x38), (0, .ref (G.2.2.2 + q20)), (1, .long x21), (3, .long x22), (8, .long x25)]) E.1 E.2.1 dX2_valueInBillionths_99 hl (k := 4) rfl (by rw [ex39]; rfl) (by decide) rfl (fun ls hl => ?_)
        refine lv_goto (tgt := 6) E.1 E.2.1 dX2_valueInBillionths_102 (by decide) ?_
        exact ih _ _ _ _ _ _ _ _ _ h hW (lv_sub hl [2, 3, 4, 1, 0] rfl)
set_option maxHeartbeats 4000000 in
set_option maxRecDepth 100000 in
theorem m_X2_valueInBillionths {l : Launch} {G : GP} {sz : Nat} {q0 : Nat} {a1 : Int64} {a3 : Int64} {σ σ0 : St} {r0 : Int64} (h : f_X2_valueInBillionths q0 a1 a3 σ = some (r0, σ0)) : Met l yX2_valueInBillionths [.code yX2_valueInBillionths cX2_valueInBillionths 11 (some .long)] ({ frames := 0, cells := 0, slots := 0, locals := 0 } : Room) (va_Pc [.ref (G.2.2.2 + q0), .long a1, .long a3] (PreC G skC sz σ)) (QO (PoC G skC σ0) (Aw G.2.2.2 skC.1 sz) (some (.long r0))) 0 0 (Aw G.2.2.2 skC.1 sz) := by
  refine mkMet (by decide +kernel) (Nat.le_of_ble_eq_true rfl) skC_ok ?_
  intro p e s m below meth c ls E hW hl hr hlk
  have hl : lv_has ls 11 [(0, .ref (G.2.2.2 + q0)), (1, .long a1), (3, .long a3)] := hl
  generalize Aw G.2.2.2 skC.1 s.heap.size = A0 at E hW ⊢
  generalize ([.ref (G.2.2.2 + q0), .long a1, .long a3] : List Value).toArray = args
  unfold f_X2_valueInBillionths at h
  refine lv_lconst (v := (0 : Int64)) E.1 E.2.1 dX2_valueInBillionths_0 (by decide) ?_
  refine lv_lstore (lv' := [(5, .long (0 : Int64)), (0, .ref (G.2.2.2 + q0)), (1, .long a1), (3, .long a3)]) E.1 E.2.1 dX2_valueInBillionths_1 hl (by decide) rfl (fun ls hl => ?_)
  refine lv_iconst (v := (0 : Int32)) E.1 E.2.1 dX2_valueInBillionths_3 (by decide) ?_
  refine lv_istore (lv' := [(7, .int (0 : Int32)), (5, .long (0 : Int64)), (0, .ref (G.2.2.2 + q0)), (1, .long a1), (3, .long a3)]) E.1 E.2.1 dX2_valueInBillionths_4 hl (by decide) rfl (fun ls hl => ?_)
  refine L_X2_valueInBillionths_6 E hr hlk _ _ _ _ _ _ _ _ _ _ h hW (lv_sub hl [2, 3, 4, 1, 0] rfl)
