set_option maxHeartbeats 4000000 in
set_option maxRecDepth 100000 in
theorem L_X7_degree_19 {p : Program} {l : Launch} {e : Env} {s : State} {m : MethodId} {args : Array Value} {below : List Frame} {meth : Method} {c : Code} {G : GP} {A0 : Nat → Prop} {σ0 : St} {r0 : Int32} (E : En p m c s cX7_degree 4 yX7_degree.cls G A0) (hr : meth.sig.returnType = (some .int)) (hlk : meth.locks = false) : ∀ (n11 : Nat) (q7 : Nat) (x8 : Int32) (x9 : Int32) (x10 : Int32) (σ6 : St) (H : Heap) (locs : List Loc) (ls : Array Slot), f_X7_degree_L19 n11 q7 x8 x9 x10 σ6 = some (r0, σ0) → Wo G skR A0 s σ6 H locs → lv_has ls 4 [(0, .ref (G.2.2.2 + q7)), (1, .int x8), (2, .int x9), (3, .int x10)] → W p l e ({ frames := 3, cells := 0, slots := 0, locals := 64 } : Room) s m args below meth c H locs 0 0 (MQ below (QO (PoC G skR σ0) A0 (some (.int r0))) args s 0 0 A0) (F0 m 19 ls []) := by
  intro n11
  induction n11 with
  | zero =>
    intro q7 x8 x9 x10 σ6 H locs ls h hW hl
    rw [f_X7_degree_L19] at h
    cases h
  | succ n11 ih =>
    intro q7 x8 x9 x10 σ6 H locs ls h hW hl
    rw [f_X7_degree_L19] at h
    refine lv_iload_n E.1 E.2.1 dX7_degree_19 rfl (lv_at hl 3 rfl) ?_
    refine lv_bipush (v := (10 : Int32)) E.1 E.2.1 dX7_degree_20 (by decide) ?_
    refine lv_icmp_ge (tgt := 70) E.1 E.2.1 dX7_degree_22 (by decide) (fun g => ?_) (fun g => ?_)
    · have h := ifp h g
      refine lv_iload_n E.1 E.2.1 dX7_degree_70 rfl (lv_at hl 2 rfl) ?_
      exact e_i E hW hr hlk h dX7_degree_71
    · have h := ifn h g
      refine lv_aload_n E.1 E.2.1 dX7_degree_25 rfl (lv_at hl 0 rfl) ?_
      obtain ⟨g12, h⟩ := gd_r h
      refine gf_X7_17 E hW g12 dX7_degree_26 ?_
      refine lv_iconst (v := (1 : Int32)) E.1 E.2.1 dX7_degree_29 (by decide) ?_
      refine lv_bipush (v := (12 : Int32)) E.1 E.2.1 dX7_degree_30 (by decide) ?_
      refine lv_iload_n E.1 E.2.1 dX7_degree_32 rfl (lv_at hl 1 rfl) ?_
      refine lv_imul E.1 E.2.1 dX7_degree_33 ?_
      refine lv_iadd E.1 E.2.1 dX7_degree_34 ?_
      refine lv_iload_n E.1 E.2.1 dX7_degree_35 rfl (lv_at hl 3 rfl) ?_
      refine lv_iadd E.1 E.2.1 dX7_degree_36 ?_
      obtain ⟨g13, h⟩ := gd_r h
      refine r_iald E hW (pr_eq g13.1) g13.2 dX7_degree_37 ?_
      refine lv_if_eq (tgt := 64) E.1 E.2.1 dX7_degree_38 (by decide) (fun g => ?_) (fun g => ?_)
      · have h := ifp h g
        obtain ⟨x14, ex14⟩ : ∃ y : Int32, y = x10 + (1 : Int32) := ⟨_, rfl⟩
        have h := bnd_r ex14 h
        refine lv_iinc (v := x14) (lv' := [(3, .int x14), (0, .ref (G.2.2.2 + q7)), (1, .int x8), (2, .int x9)]) E.1 E.2.1 dX7_degree_64 hl (k := 3) rfl (by rw [ex14]; rfl) (by decide) rfl (fun ls hl => ?_)
        refine lv_goto (tgt := 19) E.1 E.2.1 dX7_degree_67 (by decide) ?_
        exact ih _ _ _ _ _ _ _ _ h hW (lv_sub hl [1, 2, 3, 0] rfl)
      · have h := ifn h g
        refine lv_iload_n E.1 E.2.1 dX7_degree_41 rfl (lv_at hl 3 rfl) ?_
        obtain ⟨x16, σ15, c17, h⟩ := obn_r h
        refine c_S (As := [.int x10]) (rest := []) E hW (m_X7_iOf c17) kw_1107 ws_X7_iOf yo_X7_iOf ⟨rfl, rfl⟩ ⟨(Nat.le_of_ble_eq_true rfl), (Nat.le_of_ble_eq_true rfl)⟩ (lv_size hl) (Nat.le_of_ble_eq_true rfl) ⟨(Nat.le_of_ble_eq_true rfl), (Nat.le_of_ble_eq_true rfl)⟩ rfl dX7_degree_42 (fun H locs hW => ?_)
        refine W.eq (g2 := F0 m 45 ls [.int x16]) rfl ?_
        refine lv_iload_n E.1 E.2.1 dX7_degree_45 rfl (lv_at hl 3 rfl) ?_
        obtain ⟨x19, σ18, c20, h⟩ := obn_r h
        refine c_S (As := [.int x10]) (rest := [.int x16]) E hW (m_X7_jOf c20) kw_1110 ws_X7_jOf yo_X7_jOf ⟨rfl, rfl⟩ ⟨(Nat.le_of_ble_eq_true rfl), (Nat.le_of_ble_eq_true rfl)⟩ (lv_size hl) (Nat.le_of_ble_eq_true rfl) ⟨(Nat.le_of_ble_eq_true rfl), (Nat.le_of_ble_eq_true rfl)⟩ rfl dX7_degree_46 (fun H locs hW => ?_)
        refine W.eq (g2 := F0 m 49 ls [.int x19, .int x16]) rfl ?_
        refine lv_iadd E.1 E.2.1 dX7_degree_49 ?_
        refine lv_iload_n E.1 E.2.1 dX7_degree_50 rfl (lv_at hl 2 rfl) ?_
        refine lv_icmp_le (tgt := 64) E.1 E.2.1 dX7_degree_51 (by decide) (fun g => ?_) (fun g => ?_)
        · have h := ifp h g
          obtain ⟨x21, ex21⟩ : ∃ y : Int32, y = x10 + (1 : Int32) := ⟨_, rfl⟩
          have h := bnd_r ex21 h
          refine lv_iinc (v := x21) (lv' := [(3, .int x21), (0, .ref (G.2.2.2 + q7)), (1, .int x8), (2, .int x9)]) E.1 E.2.1 dX7_degree_64 hl (k := 3) rfl (by rw [ex21]; rfl) (by decide) rfl (fun ls hl => ?_)
          refine lv_goto (tgt := 19) E.1 E.2.1 dX7_degree_67 (by decide) ?_
          exact ih _ _ _ _ _ _ _ _ h hW (lv_sub hl [1, 2, 3, 0] rfl)
        · have h := ifn h g
          refine lv_iload_n E.1 E.2.1 dX7_degree_54 rfl (lv_at hl 3 rfl) ?_
          obtain ⟨x23, σ22, c24, h⟩ := obn_r h
          refine c_S (As := [.int x10]) (rest := []) E hW (m_X7_iOf c24) kw_1107 ws_X7_iOf yo_X7_iOf ⟨rfl, rfl⟩ ⟨(Nat.le_of_ble_eq_true rfl), (Nat.le_of_ble_eq_true rfl)⟩ (lv_size hl) (Nat.le_of_ble_eq_true rfl) ⟨(Nat.le_of_ble_eq_true rfl), (Nat.le_of_ble_eq_true rfl)⟩ rfl dX7_degree_55 (fun H locs hW => ?_)
          refine W.eq (g2 := F0 m 58 ls [.int x23]) rfl ?_
          refine lv_iload_n E.1 E.2.1 dX7_degree_58 rfl (lv_at hl 3 rfl) ?_
          obtain ⟨x26, σ25, c27, h⟩ := obn_r h
          refine c_S (As := [.int x10]) (rest := [.int x23]) E hW (m_X7_jOf c27) kw_1110 ws_X7_jOf yo_X7_jOf ⟨rfl, rfl⟩ ⟨(Nat.le_of_ble_eq_true rfl), (Nat.le_of_ble_eq_true rfl)⟩ (lv_size hl) (Nat.le_of_ble_eq_true rfl) ⟨(Nat.le_of_ble_eq_true rfl), (Nat.le_of_ble_eq_true rfl)⟩ rfl dX7_degree_59 (fun H locs hW => ?_)
          refine W.eq (g2 := F0 m 62 ls [.int x26, .int x23]) rfl ?_
          refine lv_iadd E.1 E.2.1 dX7_degree_62 ?_
          refine lv_topi (fun x28 ex28 => ?_)
          have h := bnd_r ex28 h
          refine lv_istore_n (lv' := [(2, .int x28), (0, .ref (G.2.2.2 + q7)), (1, .int x8), (3, .int x10)]) E.1 E.2.1 dX7_degree_63 rfl hl (by decide) rfl (fun ls hl => ?_)
          obtain ⟨x29, ex29⟩ : ∃ y : Int32, y = x10 + (1 : Int32) := ⟨_, rfl⟩
          have h := bnd_r ex29 h
          refine lv_iinc (v := x29) (lv' := [(3, .int x29), (2, .int x28), (0, .ref (G.2.2.2 + q7)), (1, .int x8)]) E.1 E.2.1 dX7_degree_64 hl (k := 3) rfl (by rw [ex29]; rfl) (by decide) rfl (fun ls hl => ?_)
          refine lv_goto (tgt := 19) E.1 E.2.1 dX7_degree_67 (by decide) ?_
          exact ih _ _ _ _ _ _ _ _ h hW (lv_sub hl [2, 3, 1, 0] rfl)
set_option maxHeartbeats 4000000 in
set_option maxRecDepth 100000 in
theorem m_X7_degree {l : Launch} {G : GP} {sz : Nat} {q0 : Nat} {a1 : Int32} {σ σ0 : St} {r0 : Int32} (h : f_X7_degree q0 a1 σ = some (r0, σ0)) : Met l yX7_degree [.code yX7_degree cX7_degree 4 (some .int)] ({ frames := 3, cells := 0, slots := 0, locals := 64 } : Room) (va_Pc [.ref (G.2.2.2 + q0), .int a1] (PreC G skR sz σ)) (QO (PoC G skR σ0) (Aw G.2.2.2 skR.1 sz) (some (.int r0))) 0 0 (Aw G.2.2.2 skR.1 sz) := by
  refine mkMet (by decide +kernel) (Nat.le_of_ble_eq_true rfl) skR_ok ?_
  intro p e s m below meth c ls E hW hl hr hlk
  have hl : lv_has ls 4 [(0, .ref (G.2.2.2 + q0)), (1, .int a1)] := hl
  generalize Aw G.2.2.2 skR.1 s.heap.size = A0 at E hW ⊢
  generalize ([.ref (G.2.2.2 + q0), .int a1] : List Value).toArray = args
  unfold f_X7_degree at h
  refine lv_aload_n E.1 E.2.1 dX7_degree_0 rfl (lv_at hl 0 rfl) ?_
  refine lv_iconst (v := (0 : Int32)) E.1 E.2.1 dX7_degree_1 (by decide) ?_
  obtain ⟨g1, h⟩ := gd_r h
  refine pf_X7_79 E hW g1 dX7_degree_2 (fun σ2 H locs eσ2 hW => ?_)
  have h := bnd_r eσ2 h
  refine lv_aload_n E.1 E.2.1 dX7_degree_5 rfl (lv_at hl 0 rfl) ?_
  refine lv_iload_n E.1 E.2.1 dX7_degree_6 rfl (lv_at hl 1 rfl) ?_
  obtain ⟨x4, σ3, c5, h⟩ := obn_r h
  refine c_V (As := [.int a1]) (rest := []) E hW (m_X7_noModel c5) g1 rfl kw_1204 wv_X7_noModel yo_X7_noModel ⟨rfl, rfl⟩ ⟨(Nat.le_of_ble_eq_true rfl), (Nat.le_of_ble_eq_true rfl)⟩ (lv_size hl) (Nat.le_of_ble_eq_true rfl) ⟨(Nat.le_of_ble_eq_true rfl), (Nat.le_of_ble_eq_true rfl)⟩ rfl dX7_degree_7 (fun H locs hW => ?_)
  refine W.eq (g2 := F0 m 10 ls [.int x4]) rfl ?_
  refine lv_if_eq (tgt := 15) E.1 E.2.1 dX7_degree_10 (by decide) (fun g => ?_) (fun g => ?_)
  · have h := ifp h g
    refine lv_iconst (v := (-1 : Int32)) E.1 E.2.1 dX7_degree_15 (by decide) ?_
    refine lv_istore_n (lv' := [(2, .int (-1 : Int32)), (0, .ref (G.2.2.2 + q0)), (1, .int a1)]) E.1 E.2.1 dX7_degree_16 rfl hl (by decide) rfl (fun ls hl => ?_)
    refine lv_iconst (v := (0 : Int32)) E.1 E.2.1 dX7_degree_17 (by decide) ?_
    refine lv_istore_n (lv' := [(3, .int (0 : Int32)), (2, .int (-1 : Int32)), (0, .ref (G.2.2.2 + q0)), (1, .int a1)]) E.1 E.2.1 dX7_degree_18 rfl hl (by decide) rfl (fun ls hl => ?_)
    refine L_X7_degree_19 E hr hlk _ _ _ _ _ _ _ _ _ h hW (lv_sub hl [2, 3, 1, 0] rfl)
  · have h := ifn h g
    refine lv_iconst (v := (0 : Int32)) E.1 E.2.1 dX7_degree_13 (by decide) ?_
    exact e_i E hW hr hlk h dX7_degree_14
set_option maxHeartbeats 4000000 in
set_option maxRecDepth 100000 in
theorem L_X7_covers_18 {p : Program} {l : Launch} {e : Env} {s : State} {m : MethodId} {args : Array Value} {below : List Frame} {meth : Method} {c : Code} {G : GP} {A0 : Nat → Prop} {σ0 : St} {r0 : Int32} {K49 : Nat → St → Option (Int32 × St)} (E : En p m c s cX7_covers 4 yX7_covers.cls G A0) (hr : meth.sig.returnType = (some .boolean)) (hlk : meth.locks = false) (hK49 : ∀ (q10 : Nat) (σ9 : St) (H : Heap) (locs : List Loc) (ls : Array Slot), K49 q10 σ9 = some (r0, σ0) → Wo G skR A0 s σ9 H locs → lv_has ls 4 [(0, .ref (G.2.2.2 + q10))] → W p l e ({ frames := 4, cells := 0, slots := 0, locals := 92 } : Room) s m args below meth c H locs 0 0 (MQ below (QO (PoC G skR σ0) A0 (some (.int r0))) args s 0 0 A0) (F0 m 49 ls [])) : ∀ (n11 : Nat) (q7 : Nat) (x8 : Int32) (σ6 : St) (H : Heap) (locs : List Loc) (ls : Array Slot), f_X7_covers_L18 K49 n11 q7 x8 σ6 = some (r0, σ0) → Wo G skR A0 s σ6 H locs → lv_has ls 4 [(0, .ref (G.2.2.2 + q7)), (3, .int x8)] → W p l e ({ frames := 4, cells := 0, slots := 0, locals := 92 } : Room) s m args below meth c H locs 0 0 (MQ below (QO (PoC G skR σ0) A0 (some (.int r0))) args s 0 0 A0) (F0 m 18 ls []) := by
  intro n11
  induction n11 with
  | zero =>
    intro q7 x8 σ6 H locs ls h hW hl
    rw [f_X7_covers_L18] at h
    cases h
  | succ n11 ih =>
    intro q7 x8 σ6 H locs ls h hW hl
    rw [f_X7_covers_L18] at h
    refine lv_iload_n E.1 E.2.1 dX7_covers_18 rfl (lv_at hl 1 rfl) ?_
    refine lv_bipush (v := (10 : Int32)) E.1 E.2.1 dX7_covers_19 (by decide) ?_
    refine lv_icmp_ge (tgt := 49) E.1 E.2.1 dX7_covers_21 (by decide) (fun g => ?_) (fun g => ?_)
    · have h := ifp h g
      exact hK49 _ _ _ _ _ h hW (lv_sub hl [0] rfl)
    · have h := ifn h g
      refine lv_aload_n E.1 E.2.1 dX7_covers_24 rfl (lv_at hl 0 rfl) ?_
      obtain ⟨g12, h⟩ := gd_r h
      refine gf_X7_67 E hW g12 dX7_covers_25 ?_
      refine lv_iload_n E.1 E.2.1 dX7_covers_28 rfl (lv_at hl 1 rfl) ?_
      refine lv_aload_n E.1 E.2.1 dX7_covers_29 rfl (lv_at hl 0 rfl) ?_
      refine gf_X7_64 E hW g12 dX7_covers_30 ?_
      refine lv_iload_n E.1 E.2.1 dX7_covers_33 rfl (lv_at hl 1 rfl) ?_
      obtain ⟨g13, h⟩ := gd_r h
      refine r_lald E hW (pr_eq g13.1) g13.2 dX7_covers_34 ?_
      refine lv_aload_n E.1 E.2.1 dX7_covers_35 rfl (lv_at hl 0 rfl) ?_
      refine gf_X7_61 E hW g12 dX7_covers_36 ?_
      refine lv_iload_n E.1 E.2.1 dX7_covers_39 rfl (lv_at hl 1 rfl) ?_
      obtain ⟨g14, h⟩ := gd_r h
      refine r_lald E hW (pr_eq g14.1) g14.2 dX7_covers_40 ?_
      refine lv_lsub E.1 E.2.1 dX7_covers_41 ?_
      obtain ⟨g15, h⟩ := gd_r h
      refine r_last E hW (pr_eq g15.1) g15.2 dX7_covers_42 (fun σ16 H locs eσ16 hW => ?_)
      have h := bnd_r eσ16 h
      obtain ⟨x17, ex17⟩ : ∃ y : Int32, y = x8 + (1 : Int32) := ⟨_, rfl⟩
      have h := bnd_r ex17 h
      refine lv_iinc (v := x17) (lv' := [(3, .int x17), (0, .ref (G.2.2.2 + q7))]) E.1 E.2.1 dX7_covers_43 hl (k := 1) rfl (by rw [ex17]; rfl) (by decide) rfl (fun ls hl => ?_)
      refine lv_goto (tgt := 18) E.1 E.2.1 dX7_covers_46 (by decide) ?_
      exact ih _ _ _ _ _ _ h hW (lv_sub hl [1, 0] rfl)
set_option maxHeartbeats 4000000 in
set_option maxRecDepth 100000 in
theorem m_X7_covers {l : Launch} {G : GP} {sz : Nat} {q0 : Nat} {a1 : Int32} {a2 : Int32} {σ σ0 : St} {r0 : Int32} (h : f_X7_covers q0 a1 a2 σ = some (r0, σ0)) : Met l yX7_covers [.code yX7_covers cX7_covers 4 (some .boolean)] ({ frames := 4, cells := 0, slots := 0, locals := 92 } : Room) (va_Pc [.ref (G.2.2.2 + q0), .int a1, .int a2] (PreC G skR sz σ)) (QO (PoC G skR σ0) (Aw G.2.2.2 skR.1 sz) (some (.int r0))) 0 0 (Aw G.2.2.2 skR.1 sz) := by
  refine mkMet (by decide +kernel) (Nat.le_of_ble_eq_true rfl) skR_ok ?_
  intro p e s m below meth c ls E hW hl hr hlk
  have hl : lv_has ls 4 [(0, .ref (G.2.2.2 + q0)), (1, .int a1), (2, .int a2)] := hl
  generalize Aw G.2.2.2 skR.1 s.heap.size = A0 at E hW ⊢
  generalize ([.ref (G.2.2.2 + q0), .int a1, .int a2] : List Value).toArray = args
  unfold f_X7_covers at h
  refine lv_aload_n E.1 E.2.1 dX7_covers_0 rfl (lv_at hl 0 rfl) ?_
  refine lv_iconst (v := (0 : Int32)) E.1 E.2.1 dX7_covers_1 (by decide) ?_
  obtain ⟨g1, h⟩ := gd_r h
  refine pf_X7_79 E hW g1 dX7_covers_2 (fun σ2 H locs eσ2 hW => ?_)
  have h := bnd_r eσ2 h
  refine lv_aload_n E.1 E.2.1 dX7_covers_5 rfl (lv_at hl 0 rfl) ?_
  refine lv_iload_n E.1 E.2.1 dX7_covers_6 rfl (lv_at hl 1 rfl) ?_
  refine lv_iload_n E.1 E.2.1 dX7_covers_7 rfl (lv_at hl 2 rfl) ?_
  obtain ⟨x4, σ3, c5, h⟩ := obn_r h
  refine c_V (As := [.int a1, .int a2]) (rest := []) E hW (m_X7_noPair c5) g1 rfl kw_1238 wv_X7_noPair yo_X7_noPair ⟨rfl, rfl⟩ ⟨(Nat.le_of_ble_eq_true rfl), (Nat.le_of_ble_eq_true rfl)⟩ (lv_size hl) (Nat.le_of_ble_eq_true rfl) ⟨(Nat.le_of_ble_eq_true rfl), (Nat.le_of_ble_eq_true rfl)⟩ rfl dX7_covers_8 (fun H locs hW => ?_)
  refine W.eq (g2 := F0 m 11 ls [.int x4]) rfl ?_
  refine lv_if_eq (tgt := 16) E.1 E.2.1 dX7_covers_11 (by decide) (fun g => ?_) (fun g => ?_)
  · have h := ifp h g
    refine lv_iconst (v := (0 : Int32)) E.1 E.2.1 dX7_covers_16 (by decide) ?_
    refine lv_istore_n (lv' := [(3, .int (0 : Int32)), (0, .ref (G.2.2.2 + q0)), (1, .int a1), (2, .int a2)]) E.1 E.2.1 dX7_covers_17 rfl hl (by decide) rfl (fun ls hl => ?_)
    refine L_X7_covers_18 E hr hlk ?_ _ _ _ _ _ _ _ h hW (lv_sub hl [1, 0] rfl)
    · intro q10 σ9 H locs ls h hW hl
      refine lv_aload_n E.1 E.2.1 dX7_covers_49 rfl (lv_at hl 0 rfl) ?_
      obtain ⟨g18, h⟩ := gd_r h
      refine gf_X7_67 E hW g18 dX7_covers_50 ?_
      obtain ⟨x20, σ19, c21, h⟩ := obn_r h
      refine c_S (As := [.ref (G.2.2.2 + (rR q10 26))]) (rest := []) E hW (m_X7_spreadLow c21) kw_1158 ws_X7_spreadLow yo_X7_spreadLow ⟨rfl, rfl⟩ ⟨(Nat.le_of_ble_eq_true rfl), (Nat.le_of_ble_eq_true rfl)⟩ (lv_size hl) (Nat.le_of_ble_eq_true rfl) ⟨(Nat.le_of_ble_eq_true rfl), (Nat.le_of_ble_eq_true rfl)⟩ rfl dX7_covers_53 (fun H locs hW => ?_)
      refine W.eq (g2 := F0 m 56 ls [.long x20]) rfl ?_
      refine lv_aload_n E.1 E.2.1 dX7_covers_56 rfl (lv_at hl 0 rfl) ?_
      refine gf_X7_64 E hW g18 dX7_covers_57 ?_
      refine lv_bipush (v := (10 : Int32)) E.1 E.2.1 dX7_covers_60 (by decide) ?_
      obtain ⟨g22, h⟩ := gd_r h
      refine r_lald E hW (pr_eq g22.1) g22.2 dX7_covers_62 ?_
      refine lv_ladd E.1 E.2.1 dX7_covers_63 ?_
      refine lv_aload_n E.1 E.2.1 dX7_covers_64 rfl (lv_at hl 0 rfl) ?_
      refine gf_X7_61 E hW g18 dX7_covers_65 ?_
      refine lv_bipush (v := (10 : Int32)) E.1 E.2.1 dX7_covers_68 (by decide) ?_
      obtain ⟨g23, h⟩ := gd_r h
      refine r_lald E hW (pr_eq g23.1) g23.2 dX7_covers_70 ?_
      refine r_lc_lt E dX7_covers_71 dX7_covers_72 (tgt := 105) (by decide) (fun g => ?_) (fun g => ?_)
      · have h := ifp h g
        refine lv_iconst (v := (0 : Int32)) E.1 E.2.1 dX7_covers_105 (by decide) ?_
        exact e_z E hW hr hlk (by decide) h dX7_covers_106
      · have h := ifn h g
        refine lv_aload_n E.1 E.2.1 dX7_covers_75 rfl (lv_at hl 0 rfl) ?_
        refine gf_X7_67 E hW g18 dX7_covers_76 ?_
        obtain ⟨x25, σ24, c26, h⟩ := obn_r h
        refine c_S (As := [.ref (G.2.2.2 + (rR q10 26))]) (rest := []) E hW (m_X7_spreadHigh c26) kw_1162 ws_X7_spreadHigh yo_X7_spreadHigh ⟨rfl, rfl⟩ ⟨(Nat.le_of_ble_eq_true rfl), (Nat.le_of_ble_eq_true rfl)⟩ (lv_size hl) (Nat.le_of_ble_eq_true rfl) ⟨(Nat.le_of_ble_eq_true rfl), (Nat.le_of_ble_eq_true rfl)⟩ rfl dX7_covers_79 (fun H locs hW => ?_)
        refine W.eq (g2 := F0 m 82 ls [.long x25]) rfl ?_
        refine lv_aload_n E.1 E.2.1 dX7_covers_82 rfl (lv_at hl 0 rfl) ?_
        refine gf_X7_64 E hW g18 dX7_covers_83 ?_
        refine lv_bipush (v := (11 : Int32)) E.1 E.2.1 dX7_covers_86 (by decide) ?_
        obtain ⟨g27, h⟩ := gd_r h
        refine r_lald E hW (pr_eq g27.1) g27.2 dX7_covers_88 ?_
        refine lv_ladd E.1 E.2.1 dX7_covers_89 ?_
        refine lv_aload_n E.1 E.2.1 dX7_covers_90 rfl (lv_at hl 0 rfl) ?_
        refine gf_X7_61 E hW g18 dX7_covers_91 ?_
        refine lv_bipush (v := (11 : Int32)) E.1 E.2.1 dX7_covers_94 (by decide) ?_
        obtain ⟨g28, h⟩ := gd_r h
        refine r_lald E hW (pr_eq g28.1) g28.2 dX7_covers_96 ?_
        refine r_lc_gt E dX7_covers_97 dX7_covers_98 (tgt := 105) (by decide) (fun g => ?_) (fun g => ?_)
        · have h := ifp h g
          refine lv_iconst (v := (0 : Int32)) E.1 E.2.1 dX7_covers_105 (by decide) ?_
          exact e_z E hW hr hlk (by decide) h dX7_covers_106
        · have h := ifn h g
          refine lv_iconst (v := (1 : Int32)) E.1 E.2.1 dX7_covers_101 (by decide) ?_
          refine lv_goto (tgt := 106) E.1 E.2.1 dX7_covers_102 (by decide) ?_
          exact e_z E hW hr hlk (by decide) h dX7_covers_106
  · have h := ifn h g
    refine lv_iconst (v := (0 : Int32)) E.1 E.2.1 dX7_covers_14 (by decide) ?_
    exact e_z E hW hr hlk (by decide) h dX7_covers_15
set_option maxHeartbeats 4000000 in
set_option maxRecDepth 100000 in
theorem m_X7_noThree {l : Launch} {G : GP} {sz : Nat} {q0 : Nat} {a1 : Int32} {a2 : Int32} {a3 : Int32} {σ σ0 : St} {r0 : Int32} (h : f_X7_noThree q0 a1 a2 a3 σ = some (r0, σ0)) : Met l yX7_noThree [.code yX7_noThree cX7_noThree 4 (some .boolean)] ({ frames := 4, cells := 0, slots := 0, locals := 86 } : Room) (va_Pc [.ref (G.2.2.2 + q0), .int a1, .int a2, .int a3] (PreC G skR sz σ)) (QO (PoC G skR σ0) (Aw G.2.2.2 skR.1 sz) (some (.int r0))) 0 0 (Aw G.2.2.2 skR.1 sz) := by
  refine mkMet (by decide +kernel) (Nat.le_of_ble_eq_true rfl) skR_ok ?_
  intro p e s m below meth c ls E hW hl hr hlk
  have hl : lv_has ls 4 [(0, .ref (G.2.2.2 + q0)), (1, .int a1), (2, .int a2), (3, .int a3)] := hl
  generalize Aw G.2.2.2 skR.1 s.heap.size = A0 at E hW ⊢
  generalize ([.ref (G.2.2.2 + q0), .int a1, .int a2, .int a3] : List Value).toArray = args
  unfold f_X7_noThree at h
  refine lv_aload_n E.1 E.2.1 dX7_noThree_0 rfl (lv_at hl 0 rfl) ?_
  refine lv_iload_n E.1 E.2.1 dX7_noThree_1 rfl (lv_at hl 1 rfl) ?_
  obtain ⟨g1, h⟩ := gd_r h
  obtain ⟨x3, σ2, c4, h⟩ := obn_r h
  refine c_V (As := [.int a1]) (rest := []) E hW (m_X7_noIndex c4) g1 rfl kw_1208 wv_X7_noIndex yo_X7_noIndex ⟨rfl, rfl⟩ ⟨(Nat.le_of_ble_eq_true rfl), (Nat.le_of_ble_eq_true rfl)⟩ (lv_size hl) (Nat.le_of_ble_eq_true rfl) ⟨(Nat.le_of_ble_eq_true rfl), (Nat.le_of_ble_eq_true rfl)⟩ rfl dX7_noThree_2 (fun H locs hW => ?_)
  refine W.eq (g2 := F0 m 5 ls [.int x3]) rfl ?_
  refine lv_if_ne (tgt := 41) E.1 E.2.1 dX7_noThree_5 (by decide) (fun g => ?_) (fun g => ?_)
  · have h := ifn h g
    refine lv_iconst (v := (1 : Int32)) E.1 E.2.1 dX7_noThree_41 (by decide) ?_
    exact e_z E hW hr hlk (by decide) h dX7_noThree_42
  · have h := ifp h g
    refine lv_aload_n E.1 E.2.1 dX7_noThree_8 rfl (lv_at hl 0 rfl) ?_
    refine lv_iload_n E.1 E.2.1 dX7_noThree_9 rfl (lv_at hl 2 rfl) ?_
    obtain ⟨x6, σ5, c7, h⟩ := obn_r h
    refine c_V (As := [.int a2]) (rest := []) E hW (m_X7_noIndex c7) g1 rfl kw_1208 wv_X7_noIndex yo_X7_noIndex ⟨rfl, rfl⟩ ⟨(Nat.le_of_ble_eq_true rfl), (Nat.le_of_ble_eq_true rfl)⟩ (lv_size hl) (Nat.le_of_ble_eq_true rfl) ⟨(Nat.le_of_ble_eq_true rfl), (Nat.le_of_ble_eq_true rfl)⟩ rfl dX7_noThree_10 (fun H locs hW => ?_)
    refine W.eq (g2 := F0 m 13 ls [.int x6]) rfl ?_
    refine lv_if_ne (tgt := 41) E.1 E.2.1 dX7_noThree_13 (by decide) (fun g => ?_) (fun g => ?_)
    · have h := ifn h g
      refine lv_iconst (v := (1 : Int32)) E.1 E.2.1 dX7_noThree_41 (by decide) ?_
      exact e_z E hW hr hlk (by decide) h dX7_noThree_42
    · have h := ifp h g
      refine lv_aload_n E.1 E.2.1 dX7_noThree_16 rfl (lv_at hl 0 rfl) ?_
      refine lv_iload_n E.1 E.2.1 dX7_noThree_17 rfl (lv_at hl 3 rfl) ?_
      obtain ⟨x9, σ8, c10, h⟩ := obn_r h
      refine c_V (As := [.int a3]) (rest := []) E hW (m_X7_noIndex c10) g1 rfl kw_1208 wv_X7_noIndex yo_X7_noIndex ⟨rfl, rfl⟩ ⟨(Nat.le_of_ble_eq_true rfl), (Nat.le_of_ble_eq_true rfl)⟩ (lv_size hl) (Nat.le_of_ble_eq_true rfl) ⟨(Nat.le_of_ble_eq_true rfl), (Nat.le_of_ble_eq_true rfl)⟩ rfl dX7_noThree_18 (fun H locs hW => ?_)
      refine W.eq (g2 := F0 m 21 ls [.int x9]) rfl ?_
      refine lv_if_ne (tgt := 41) E.1 E.2.1 dX7_noThree_21 (by decide) (fun g => ?_) (fun g => ?_)
      · have h := ifn h g
        refine lv_iconst (v := (1 : Int32)) E.1 E.2.1 dX7_noThree_41 (by decide) ?_
        exact e_z E hW hr hlk (by decide) h dX7_noThree_42
      · have h := ifp h g
        refine lv_aload_n E.1 E.2.1 dX7_noThree_24 rfl (lv_at hl 0 rfl) ?_
        refine lv_iload_n E.1 E.2.1 dX7_noThree_25 rfl (lv_at hl 1 rfl) ?_
        obtain ⟨x12, σ11, c13, h⟩ := obn_r h
        refine c_V (As := [.int a1]) (rest := []) E hW (m_X7_noModel c13) g1 rfl kw_1204 wv_X7_noModel yo_X7_noModel ⟨rfl, rfl⟩ ⟨(Nat.le_of_ble_eq_true rfl), (Nat.le_of_ble_eq_true rfl)⟩ (lv_size hl) (Nat.le_of_ble_eq_true rfl) ⟨(Nat.le_of_ble_eq_true rfl), (Nat.le_of_ble_eq_true rfl)⟩ rfl dX7_noThree_26 (fun H locs hW => ?_)
        refine W.eq (g2 := F0 m 29 ls [.int x12]) rfl ?_
        refine lv_if_ne (tgt := 41) E.1 E.2.1 dX7_noThree_29 (by decide) (fun g => ?_) (fun g => ?_)
        · have h := ifn h g
          refine lv_iconst (v := (1 : Int32)) E.1 E.2.1 dX7_noThree_41 (by decide) ?_
          exact e_z E hW hr hlk (by decide) h dX7_noThree_42
        · have h := ifp h g
          refine lv_aload_n E.1 E.2.1 dX7_noThree_32 rfl (lv_at hl 0 rfl) ?_
          refine lv_iload_n E.1 E.2.1 dX7_noThree_33 rfl (lv_at hl 2 rfl) ?_
          refine lv_iload_n E.1 E.2.1 dX7_noThree_34 rfl (lv_at hl 3 rfl) ?_
          obtain ⟨x15, σ14, c16, h⟩ := obn_r h
          refine c_V (As := [.int a2, .int a3]) (rest := []) E hW (m_X7_noPair c16) g1 rfl kw_1238 wv_X7_noPair yo_X7_noPair ⟨rfl, rfl⟩ ⟨(Nat.le_of_ble_eq_true rfl), (Nat.le_of_ble_eq_true rfl)⟩ (lv_size hl) (Nat.le_of_ble_eq_true rfl) ⟨(Nat.le_of_ble_eq_true rfl), (Nat.le_of_ble_eq_true rfl)⟩ rfl dX7_noThree_35 (fun H locs hW => ?_)
          refine W.eq (g2 := F0 m 38 ls [.int x15]) rfl ?_
          refine lv_if_eq (tgt := 43) E.1 E.2.1 dX7_noThree_38 (by decide) (fun g => ?_) (fun g => ?_)
          · have h := ifp h g
            refine lv_aload_n E.1 E.2.1 dX7_noThree_43 rfl (lv_at hl 0 rfl) ?_
            refine gf_X7_17 E hW g1 dX7_noThree_44 ?_
            refine lv_iload_n E.1 E.2.1 dX7_noThree_47 rfl (lv_at hl 1 rfl) ?_
            refine lv_aload_n E.1 E.2.1 dX7_noThree_48 rfl (lv_at hl 0 rfl) ?_
            refine gf_X7_67 E hW g1 dX7_noThree_49 ?_
            obtain ⟨_r, σ17, c18, h⟩ := obn_r h
            refine c_S (As := [.ref (G.2.2.2 + (rR q0 8)), .int a1, .ref (G.2.2.2 + (rR q0 26))]) (rest := []) E hW (m_X7_take c18) kw_1148 ws_X7_take yo_X7_take ⟨rfl, rfl⟩ ⟨(Nat.le_of_ble_eq_true rfl), (Nat.le_of_ble_eq_true rfl)⟩ (lv_size hl) (Nat.le_of_ble_eq_true rfl) ⟨(Nat.le_of_ble_eq_true rfl), (Nat.le_of_ble_eq_true rfl)⟩ rfl dX7_noThree_52 (fun H locs hW => ?_)
            refine W.eq (g2 := F0 m 55 ls []) rfl ?_
            refine lv_iconst (v := (0 : Int32)) E.1 E.2.1 dX7_noThree_55 (by decide) ?_
            exact e_z E hW hr hlk (by decide) h dX7_noThree_56
          · have h := ifn h g
            refine lv_iconst (v := (1 : Int32)) E.1 E.2.1 dX7_noThree_41 (by decide) ?_
            exact e_z E hW hr hlk (by decide) h dX7_noThree_42
set_option maxHeartbeats 4000000 in
set_option maxRecDepth 100000 in
theorem m_X7_reason {l : Launch} {G : GP} {sz : Nat} {q0 : Nat} {a1 : Int32} {a2 : Int32} {a3 : Int32} {σ σ0 : St} {r0 : Int32} (h : f_X7_reason q0 a1 a2 a3 σ = some (r0, σ0)) : Met l yX7_reason [.code yX7_reason cX7_reason 4 (some .int)] ({ frames := 6, cells := 0, slots := 0, locals := 158 } : Room) (va_Pc [.ref (G.2.2.2 + q0), .int a1, .int a2, .int a3] (PreC G skR sz σ)) (QO (PoC G skR σ0) (Aw G.2.2.2 skR.1 sz) (some (.int r0))) 0 0 (Aw G.2.2.2 skR.1 sz) := by
  refine mkMet (by decide +kernel) (Nat.le_of_ble_eq_true rfl) skR_ok ?_
  intro p e s m below meth c ls E hW hl hr hlk
  have hl : lv_has ls 4 [(0, .ref (G.2.2.2 + q0)), (1, .int a1), (2, .int a2), (3, .int a3)] := hl
  generalize Aw G.2.2.2 skR.1 s.heap.size = A0 at E hW ⊢
  generalize ([.ref (G.2.2.2 + q0), .int a1, .int a2, .int a3] : List Value).toArray = args
  unfold f_X7_reason at h
  refine lv_aload_n E.1 E.2.1 dX7_reason_0 rfl (lv_at hl 0 rfl) ?_
  refine lv_iconst (v := (0 : Int32)) E.1 E.2.1 dX7_reason_1 (by decide) ?_
  obtain ⟨g1, h⟩ := gd_r h
  refine pf_X7_79 E hW g1 dX7_reason_2 (fun σ2 H locs eσ2 hW => ?_)
  have h := bnd_r eσ2 h
  refine lv_aload_n E.1 E.2.1 dX7_reason_5 rfl (lv_at hl 0 rfl) ?_
  refine lv_iload_n E.1 E.2.1 dX7_reason_6 rfl (lv_at hl 1 rfl) ?_
  refine lv_iload_n E.1 E.2.1 dX7_reason_7 rfl (lv_at hl 2 rfl) ?_
  refine lv_iload_n E.1 E.2.1 dX7_reason_8 rfl (lv_at hl 3 rfl) ?_
  obtain ⟨x4, σ3, c5, h⟩ := obn_r h
  refine c_V (As := [.int a1, .int a2, .int a3]) (rest := []) E hW (m_X7_noThree c5) g1 rfl kw_1246 wv_X7_noThree yo_X7_noThree ⟨rfl, rfl⟩ ⟨(Nat.le_of_ble_eq_true rfl), (Nat.le_of_ble_eq_true rfl)⟩ (lv_size hl) (Nat.le_of_ble_eq_true rfl) ⟨(Nat.le_of_ble_eq_true rfl), (Nat.le_of_ble_eq_true rfl)⟩ rfl dX7_reason_9 (fun H locs hW => ?_)
  refine W.eq (g2 := F0 m 12 ls [.int x4]) rfl ?_
  refine lv_if_eq (tgt := 19) E.1 E.2.1 dX7_reason_12 (by decide) (fun g => ?_) (fun g => ?_)
  · have h := ifp h g
    refine lv_aload_n E.1 E.2.1 dX7_reason_19 rfl (lv_at hl 0 rfl) ?_
    refine lv_aload_n E.1 E.2.1 dX7_reason_20 rfl (lv_at hl 0 rfl) ?_
    refine gf_X7_67 E hW g1 dX7_reason_21 ?_
    refine lv_aload_n E.1 E.2.1 dX7_reason_24 rfl (lv_at hl 0 rfl) ?_
    refine gf_X7_61 E hW g1 dX7_reason_25 ?_
    refine lv_aload_n E.1 E.2.1 dX7_reason_28 rfl (lv_at hl 0 rfl) ?_
    refine gf_X7_64 E hW g1 dX7_reason_29 ?_
    refine lv_aload_n E.1 E.2.1 dX7_reason_32 rfl (lv_at hl 0 rfl) ?_
    refine gf_X7_70 E hW g1 dX7_reason_33 ?_
    obtain ⟨x7, σ6, c8, h⟩ := obn_r h
    refine c_V (As := [.ref (G.2.2.2 + (rR q0 26)), .ref (G.2.2.2 + (rR q0 24)), .ref (G.2.2.2 + (rR q0 25)), .ref (G.2.2.2 + (rR q0 27))]) (rest := []) E hW (m_X7_compositionOf c8) g1 rfl kw_1151 wv_X7_compositionOf yo_X7_compositionOf ⟨rfl, rfl⟩ ⟨(Nat.le_of_ble_eq_true rfl), (Nat.le_of_ble_eq_true rfl)⟩ (lv_size hl) (Nat.le_of_ble_eq_true rfl) ⟨(Nat.le_of_ble_eq_true rfl), (Nat.le_of_ble_eq_true rfl)⟩ rfl dX7_reason_36 (fun H locs hW => ?_)
    refine W.eq (g2 := F0 m 39 ls [.int x7]) rfl ?_
    exact e_i E hW hr hlk h dX7_reason_39
  · have h := ifn h g
    refine lv_iconst (v := (0 : Int32)) E.1 E.2.1 dX7_reason_15 (by decide) ?_
    refine lv_goto (tgt := 39) E.1 E.2.1 dX7_reason_16 (by decide) ?_
    exact e_i E hW hr hlk h dX7_reason_39
set_option maxHeartbeats 4000000 in
set_option maxRecDepth 100000 in
theorem m_X7_becomes {l : Launch} {G : GP} {sz : Nat} {q0 : Nat} {a1 : Int32} {σ σ0 : St} {r0 : Int32} (h : f_X7_becomes q0 a1 σ = some (r0, σ0)) : Met l yX7_becomes [.code yX7_becomes cX7_becomes 2 (some .int)] ({ frames := 2, cells := 0, slots := 0, locals := 43 } : Room) (va_Pc [.ref (G.2.2.2 + q0), .int a1] (PreC G skR sz σ)) (QO (PoC G skR σ0) (Aw G.2.2.2 skR.1 sz) (some (.int r0))) 0 0 (Aw G.2.2.2 skR.1 sz) := by
  refine mkMet (by decide +kernel) (Nat.le_of_ble_eq_true rfl) skR_ok ?_
  intro p e s m below meth c ls E hW hl hr hlk
  have hl : lv_has ls 2 [(0, .ref (G.2.2.2 + q0)), (1, .int a1)] := hl
  generalize Aw G.2.2.2 skR.1 s.heap.size = A0 at E hW ⊢
  generalize ([.ref (G.2.2.2 + q0), .int a1] : List Value).toArray = args
  unfold f_X7_becomes at h
  refine lv_aload_n E.1 E.2.1 dX7_becomes_0 rfl (lv_at hl 0 rfl) ?_
  obtain ⟨g1, h⟩ := gd_r h
  obtain ⟨_r, σ2, c3, h⟩ := obn_r h
  refine c_V (As := []) (rest := []) E hW (m_X7_remember c3) g1 rfl kw_1185 wv_X7_remember yo_X7_remember ⟨rfl, rfl⟩ ⟨(Nat.le_of_ble_eq_true rfl), (Nat.le_of_ble_eq_true rfl)⟩ (lv_size hl) (Nat.le_of_ble_eq_true rfl) ⟨(Nat.le_of_ble_eq_true rfl), (Nat.le_of_ble_eq_true rfl)⟩ rfl dX7_becomes_1 (fun H locs hW => ?_)
  refine W.eq (g2 := F0 m 4 ls []) rfl ?_
  refine lv_aload_n E.1 E.2.1 dX7_becomes_4 rfl (lv_at hl 0 rfl) ?_
  refine gf_X7_70 E hW g1 dX7_becomes_5 ?_
  refine lv_aload_n E.1 E.2.1 dX7_becomes_8 rfl (lv_at hl 0 rfl) ?_
  refine gf_X7_17 E hW g1 dX7_becomes_9 ?_
  refine lv_iload_n E.1 E.2.1 dX7_becomes_12 rfl (lv_at hl 1 rfl) ?_
  obtain ⟨_r, σ4, c5, h⟩ := obn_r h
  refine c_S (As := [.ref (G.2.2.2 + (rR q0 27)), .ref (G.2.2.2 + (rR q0 8)), .int a1]) (rest := []) E hW (m_X7_give c5) kw_1182 ws_X7_give yo_X7_give ⟨rfl, rfl⟩ ⟨(Nat.le_of_ble_eq_true rfl), (Nat.le_of_ble_eq_true rfl)⟩ (lv_size hl) (Nat.le_of_ble_eq_true rfl) ⟨(Nat.le_of_ble_eq_true rfl), (Nat.le_of_ble_eq_true rfl)⟩ rfl dX7_becomes_13 (fun H locs hW => ?_)
  refine W.eq (g2 := F0 m 16 ls []) rfl ?_
  refine lv_aload_n E.1 E.2.1 dX7_becomes_16 rfl (lv_at hl 0 rfl) ?_
  refine gf_X7_70 E hW g1 dX7_becomes_17 ?_
  refine lv_bipush (v := (11 : Int32)) E.1 E.2.1 dX7_becomes_20 (by decide) ?_
  obtain ⟨g6, h⟩ := gd_r h
  refine r_lald E hW (pr_eq g6.1) g6.2 dX7_becomes_22 ?_
  refine lv_aload_n E.1 E.2.1 dX7_becomes_23 rfl (lv_at hl 0 rfl) ?_
  refine gf_X7_70 E hW g1 dX7_becomes_24 ?_
  refine lv_bipush (v := (10 : Int32)) E.1 E.2.1 dX7_becomes_27 (by decide) ?_
  obtain ⟨g7, h⟩ := gd_r h
  refine r_lald E hW (pr_eq g7.1) g7.2 dX7_becomes_29 ?_
  refine lv_lsub E.1 E.2.1 dX7_becomes_30 ?_
  refine lv_l2i E.1 E.2.1 dX7_becomes_31 rfl ?_
  exact e_i E hW hr hlk h dX7_becomes_32
set_option maxHeartbeats 4000000 in
set_option maxRecDepth 100000 in
theorem m_X7_add {l : Launch} {G : GP} {sz : Nat} {q0 : Nat} {a1 : Int32} {a2 : Int32} {a3 : Int32} {σ σ0 : St} {r0 : Int32} (h : f_X7_add q0 a1 a2 a3 σ = some (r0, σ0)) : Met l yX7_add [.code yX7_add cX7_add 4 (some .int)] ({ frames := 4, cells := 0, slots := 0, locals := 86 } : Room) (va_Pc [.ref (G.2.2.2 + q0), .int a1, .int a2, .int a3] (PreC G skR sz σ)) (QO (PoC G skR σ0) (Aw G.2.2.2 skR.1 sz) (some (.int r0))) 0 0 (Aw G.2.2.2 skR.1 sz) := by
  refine mkMet (by decide +kernel) (Nat.le_of_ble_eq_true rfl) skR_ok ?_
  intro p e s m below meth c ls E hW hl hr hlk
  have hl : lv_has ls 4 [(0, .ref (G.2.2.2 + q0)), (1, .int a1), (2, .int a2), (3, .int a3)] := hl
  generalize Aw G.2.2.2 skR.1 s.heap.size = A0 at E hW ⊢
  generalize ([.ref (G.2.2.2 + q0), .int a1, .int a2, .int a3] : List Value).toArray = args
  unfold f_X7_add at h
  refine lv_aload_n E.1 E.2.1 dX7_add_0 rfl (lv_at hl 0 rfl) ?_
  refine lv_iconst (v := (0 : Int32)) E.1 E.2.1 dX7_add_1 (by decide) ?_
  obtain ⟨g1, h⟩ := gd_r h
  refine pf_X7_79 E hW g1 dX7_add_2 (fun σ2 H locs eσ2 hW => ?_)
  have h := bnd_r eσ2 h
  refine lv_aload_n E.1 E.2.1 dX7_add_5 rfl (lv_at hl 0 rfl) ?_
  refine lv_iload_n E.1 E.2.1 dX7_add_6 rfl (lv_at hl 1 rfl) ?_
  obtain ⟨x4, σ3, c5, h⟩ := obn_r h
  refine c_V (As := [.int a1]) (rest := []) E hW (m_X7_noIndex c5) g1 rfl kw_1208 wv_X7_noIndex yo_X7_noIndex ⟨rfl, rfl⟩ ⟨(Nat.le_of_ble_eq_true rfl), (Nat.le_of_ble_eq_true rfl)⟩ (lv_size hl) (Nat.le_of_ble_eq_true rfl) ⟨(Nat.le_of_ble_eq_true rfl), (Nat.le_of_ble_eq_true rfl)⟩ rfl dX7_add_7 (fun H locs hW => ?_)
  refine W.eq (g2 := F0 m 10 ls [.int x4]) rfl ?_
  refine lv_if_ne (tgt := 54) E.1 E.2.1 dX7_add_10 (by decide) (fun g => ?_) (fun g => ?_)
  · have h := ifn h g
    refine lv_iconst (v := (0 : Int32)) E.1 E.2.1 dX7_add_54 (by decide) ?_
    refine lv_goto (tgt := 63) E.1 E.2.1 dX7_add_55 (by decide) ?_
    exact e_i E hW hr hlk h dX7_add_63
  · have h := ifp h g
    refine lv_aload_n E.1 E.2.1 dX7_add_13 rfl (lv_at hl 0 rfl) ?_
    refine lv_iload_n E.1 E.2.1 dX7_add_14 rfl (lv_at hl 2 rfl) ?_
    refine lv_iload_n E.1 E.2.1 dX7_add_15 rfl (lv_at hl 3 rfl) ?_
    obtain ⟨x7, σ6, c8, h⟩ := obn_r h
    refine c_V (As := [.int a2, .int a3]) (rest := []) E hW (m_X7_noPair c8) g1 rfl kw_1238 wv_X7_noPair yo_X7_noPair ⟨rfl, rfl⟩ ⟨(Nat.le_of_ble_eq_true rfl), (Nat.le_of_ble_eq_true rfl)⟩ (lv_size hl) (Nat.le_of_ble_eq_true rfl) ⟨(Nat.le_of_ble_eq_true rfl), (Nat.le_of_ble_eq_true rfl)⟩ rfl dX7_add_16 (fun H locs hW => ?_)
    refine W.eq (g2 := F0 m 19 ls [.int x7]) rfl ?_
    refine lv_if_ne (tgt := 54) E.1 E.2.1 dX7_add_19 (by decide) (fun g => ?_) (fun g => ?_)
    · have h := ifn h g
      refine lv_iconst (v := (0 : Int32)) E.1 E.2.1 dX7_add_54 (by decide) ?_
      refine lv_goto (tgt := 63) E.1 E.2.1 dX7_add_55 (by decide) ?_
      exact e_i E hW hr hlk h dX7_add_63
    · have h := ifp h g
      refine lv_aload_n E.1 E.2.1 dX7_add_22 rfl (lv_at hl 0 rfl) ?_
      refine lv_aload_n E.1 E.2.1 dX7_add_23 rfl (lv_at hl 0 rfl) ?_
      refine gf_X7_61 E hW g1 dX7_add_24 ?_
      refine lv_aload_n E.1 E.2.1 dX7_add_27 rfl (lv_at hl 0 rfl) ?_
      refine gf_X7_64 E hW g1 dX7_add_28 ?_
      refine lv_iconst (v := (1 : Int32)) E.1 E.2.1 dX7_add_31 (by decide) ?_
      refine lv_aload_n E.1 E.2.1 dX7_add_32 rfl (lv_at hl 0 rfl) ?_
      refine gf_X7_70 E hW g1 dX7_add_33 ?_
      obtain ⟨x10, σ9, c11, h⟩ := obn_r h
      refine c_S (As := [.ref (G.2.2.2 + (rR q0 24)), .ref (G.2.2.2 + (rR q0 25)), .int (1 : Int32), .ref (G.2.2.2 + (rR q0 27))]) (rest := [.ref (G.2.2.2 + q0)]) E hW (m_X7_sumOf c11) kw_1179 ws_X7_sumOf yo_X7_sumOf ⟨rfl, rfl⟩ ⟨(Nat.le_of_ble_eq_true rfl), (Nat.le_of_ble_eq_true rfl)⟩ (lv_size hl) (Nat.le_of_ble_eq_true rfl) ⟨(Nat.le_of_ble_eq_true rfl), (Nat.le_of_ble_eq_true rfl)⟩ rfl dX7_add_36 (fun H locs hW => ?_)
      refine W.eq (g2 := F0 m 39 ls [.int x10, .ref (G.2.2.2 + q0)]) rfl ?_
      obtain ⟨J17, eJ17, h⟩ := bnd_x h
      have hJ17 : ∀ (q13 : Nat) (x14 : Int32) (x15 : Int32) (q16 : Nat) (σ12 : St) (H : Heap) (locs : List Loc) (ls : Array Slot), J17 q13 x14 x15 q16 σ12 = some (r0, σ0) → Wo G skR A0 s σ12 H locs → lv_has ls 4 [(0, .ref (G.2.2.2 + q13)), (1, .int x14)] → W p l e ({ frames := 4, cells := 0, slots := 0, locals := 86 } : Room) s m args below meth c H locs 0 0 (MQ below (QO (PoC G skR σ0) A0 (some (.int r0))) args s 0 0 A0) (F0 m 47 ls [.int x15, .ref (G.2.2.2 + q16)]) := by
        intro q13 x14 x15 q16 σ12 H locs ls h hW hl
        have h := jr5 eJ17 h
        refine lv_iconst (v := (3 : Int32)) E.1 E.2.1 dX7_add_47 (by decide) ?_
        obtain ⟨g18, h⟩ := gd_r h
        obtain ⟨x20, σ19, c21, h⟩ := obn_r h
        refine c_V (As := [.int x15, .int (3 : Int32)]) (rest := []) E hW (m_X7_fails c21) g18 rfl kw_1015 wv_X7_fails yo_X7_fails ⟨rfl, rfl⟩ ⟨(Nat.le_of_ble_eq_true rfl), (Nat.le_of_ble_eq_true rfl)⟩ (lv_size hl) (Nat.le_of_ble_eq_true rfl) ⟨(Nat.le_of_ble_eq_true rfl), (Nat.le_of_ble_eq_true rfl)⟩ rfl dX7_add_48 (fun H locs hW => ?_)
        refine W.eq (g2 := F0 m 51 ls [.int x20]) rfl ?_
        refine lv_if_eq (tgt := 58) E.1 E.2.1 dX7_add_51 (by decide) (fun g => ?_) (fun g => ?_)
        · have h := ifp h g
          refine lv_aload_n E.1 E.2.1 dX7_add_58 rfl (lv_at hl 0 rfl) ?_
          refine lv_iload_n E.1 E.2.1 dX7_add_59 rfl (lv_at hl 1 rfl) ?_
          obtain ⟨g22, h⟩ := gd_r h
          obtain ⟨x24, σ23, c25, h⟩ := obn_r h
          refine c_V (As := [.int x14]) (rest := []) E hW (m_X7_becomes c25) g22 rfl kw_1254 wv_X7_becomes yo_X7_becomes ⟨rfl, rfl⟩ ⟨(Nat.le_of_ble_eq_true rfl), (Nat.le_of_ble_eq_true rfl)⟩ (lv_size hl) (Nat.le_of_ble_eq_true rfl) ⟨(Nat.le_of_ble_eq_true rfl), (Nat.le_of_ble_eq_true rfl)⟩ rfl dX7_add_60 (fun H locs hW => ?_)
          refine W.eq (g2 := F0 m 63 ls [.int x24]) rfl ?_
          exact e_i E hW hr hlk h dX7_add_63
        · have h := ifn h g
          refine lv_iconst (v := (0 : Int32)) E.1 E.2.1 dX7_add_54 (by decide) ?_
          refine lv_goto (tgt := 63) E.1 E.2.1 dX7_add_55 (by decide) ?_
          exact e_i E hW hr hlk h dX7_add_63
      refine lv_if_ne (tgt := 46) E.1 E.2.1 dX7_add_39 (by decide) (fun g => ?_) (fun g => ?_)
      · have h := ifn h g
        refine lv_iconst (v := (0 : Int32)) E.1 E.2.1 dX7_add_46 (by decide) ?_
        exact hJ17 _ _ _ _ _ _ _ _ h hW (lv_sub hl [0, 1] rfl)
      · have h := ifp h g
        refine lv_iconst (v := (1 : Int32)) E.1 E.2.1 dX7_add_42 (by decide) ?_
        refine lv_goto (tgt := 47) E.1 E.2.1 dX7_add_43 (by decide) ?_
        exact hJ17 _ _ _ _ _ _ _ _ h hW (lv_sub hl [0, 1] rfl)
set_option maxHeartbeats 4000000 in
set_option maxRecDepth 100000 in
theorem m_X7_subtract {l : Launch} {G : GP} {sz : Nat} {q0 : Nat} {a1 : Int32} {a2 : Int32} {a3 : Int32} {σ σ0 : St} {r0 : Int32} (h : f_X7_subtract q0 a1 a2 a3 σ = some (r0, σ0)) : Met l yX7_subtract [.code yX7_subtract cX7_subtract 4 (some .int)] ({ frames := 4, cells := 0, slots := 0, locals := 86 } : Room) (va_Pc [.ref (G.2.2.2 + q0), .int a1, .int a2, .int a3] (PreC G skR sz σ)) (QO (PoC G skR σ0) (Aw G.2.2.2 skR.1 sz) (some (.int r0))) 0 0 (Aw G.2.2.2 skR.1 sz) := by
  refine mkMet (by decide +kernel) (Nat.le_of_ble_eq_true rfl) skR_ok ?_
  intro p e s m below meth c ls E hW hl hr hlk
  have hl : lv_has ls 4 [(0, .ref (G.2.2.2 + q0)), (1, .int a1), (2, .int a2), (3, .int a3)] := hl
  generalize Aw G.2.2.2 skR.1 s.heap.size = A0 at E hW ⊢
  generalize ([.ref (G.2.2.2 + q0), .int a1, .int a2, .int a3] : List Value).toArray = args
  unfold f_X7_subtract at h
  refine lv_aload_n E.1 E.2.1 dX7_subtract_0 rfl (lv_at hl 0 rfl) ?_
  refine lv_iconst (v := (0 : Int32)) E.1 E.2.1 dX7_subtract_1 (by decide) ?_
  obtain ⟨g1, h⟩ := gd_r h
  refine pf_X7_79 E hW g1 dX7_subtract_2 (fun σ2 H locs eσ2 hW => ?_)
  have h := bnd_r eσ2 h
  refine lv_aload_n E.1 E.2.1 dX7_subtract_5 rfl (lv_at hl 0 rfl) ?_
  refine lv_iload_n E.1 E.2.1 dX7_subtract_6 rfl (lv_at hl 1 rfl) ?_
  obtain ⟨x4, σ3, c5, h⟩ := obn_r h
  refine c_V (As := [.int a1]) (rest := []) E hW (m_X7_noIndex c5) g1 rfl kw_1208 wv_X7_noIndex yo_X7_noIndex ⟨rfl, rfl⟩ ⟨(Nat.le_of_ble_eq_true rfl), (Nat.le_of_ble_eq_true rfl)⟩ (lv_size hl) (Nat.le_of_ble_eq_true rfl) ⟨(Nat.le_of_ble_eq_true rfl), (Nat.le_of_ble_eq_true rfl)⟩ rfl dX7_subtract_7 (fun H locs hW => ?_)
  refine W.eq (g2 := F0 m 10 ls [.int x4]) rfl ?_
  refine lv_if_ne (tgt := 54) E.1 E.2.1 dX7_subtract_10 (by decide) (fun g => ?_) (fun g => ?_)
  · have h := ifn h g
    refine lv_iconst (v := (0 : Int32)) E.1 E.2.1 dX7_subtract_54 (by decide) ?_
    refine lv_goto (tgt := 63) E.1 E.2.1 dX7_subtract_55 (by decide) ?_
    exact e_i E hW hr hlk h dX7_subtract_63
  · have h := ifp h g
    refine lv_aload_n E.1 E.2.1 dX7_subtract_13 rfl (lv_at hl 0 rfl) ?_
    refine lv_iload_n E.1 E.2.1 dX7_subtract_14 rfl (lv_at hl 2 rfl) ?_
    refine lv_iload_n E.1 E.2.1 dX7_subtract_15 rfl (lv_at hl 3 rfl) ?_
    obtain ⟨x7, σ6, c8, h⟩ := obn_r h
    refine c_V (As := [.int a2, .int a3]) (rest := []) E hW (m_X7_noPair c8) g1 rfl kw_1238 wv_X7_noPair yo_X7_noPair ⟨rfl, rfl⟩ ⟨(Nat.le_of_ble_eq_true rfl), (Nat.le_of_ble_eq_true rfl)⟩ (lv_size hl) (Nat.le_of_ble_eq_true rfl) ⟨(Nat.le_of_ble_eq_true rfl), (Nat.le_of_ble_eq_true rfl)⟩ rfl dX7_subtract_16 (fun H locs hW => ?_)
    refine W.eq (g2 := F0 m 19 ls [.int x7]) rfl ?_
    refine lv_if_ne (tgt := 54) E.1 E.2.1 dX7_subtract_19 (by decide) (fun g => ?_) (fun g => ?_)
    · have h := ifn h g
      refine lv_iconst (v := (0 : Int32)) E.1 E.2.1 dX7_subtract_54 (by decide) ?_
      refine lv_goto (tgt := 63) E.1 E.2.1 dX7_subtract_55 (by decide) ?_
      exact e_i E hW hr hlk h dX7_subtract_63
    · have h := ifp h g
      refine lv_aload_n E.1 E.2.1 dX7_subtract_22 rfl (lv_at hl 0 rfl) ?_
      refine lv_aload_n E.1 E.2.1 dX7_subtract_23 rfl (lv_at hl 0 rfl) ?_
      refine gf_X7_61 E hW g1 dX7_subtract_24 ?_
      refine lv_aload_n E.1 E.2.1 dX7_subtract_27 rfl (lv_at hl 0 rfl) ?_
      refine gf_X7_64 E hW g1 dX7_subtract_28 ?_
      refine lv_iconst (v := (-1 : Int32)) E.1 E.2.1 dX7_subtract_31 (by decide) ?_
      refine lv_aload_n E.1 E.2.1 dX7_subtract_32 rfl (lv_at hl 0 rfl) ?_
      refine gf_X7_70 E hW g1 dX7_subtract_33 ?_
      obtain ⟨x10, σ9, c11, h⟩ := obn_r h
      refine c_S (As := [.ref (G.2.2.2 + (rR q0 24)), .ref (G.2.2.2 + (rR q0 25)), .int (-1 : Int32), .ref (G.2.2.2 + (rR q0 27))]) (rest := [.ref (G.2.2.2 + q0)]) E hW (m_X7_sumOf c11) kw_1179 ws_X7_sumOf yo_X7_sumOf ⟨rfl, rfl⟩ ⟨(Nat.le_of_ble_eq_true rfl), (Nat.le_of_ble_eq_true rfl)⟩ (lv_size hl) (Nat.le_of_ble_eq_true rfl) ⟨(Nat.le_of_ble_eq_true rfl), (Nat.le_of_ble_eq_true rfl)⟩ rfl dX7_subtract_36 (fun H locs hW => ?_)
      refine W.eq (g2 := F0 m 39 ls [.int x10, .ref (G.2.2.2 + q0)]) rfl ?_
      obtain ⟨J17, eJ17, h⟩ := bnd_x h
      have hJ17 : ∀ (q13 : Nat) (x14 : Int32) (x15 : Int32) (q16 : Nat) (σ12 : St) (H : Heap) (locs : List Loc) (ls : Array Slot), J17 q13 x14 x15 q16 σ12 = some (r0, σ0) → Wo G skR A0 s σ12 H locs → lv_has ls 4 [(0, .ref (G.2.2.2 + q13)), (1, .int x14)] → W p l e ({ frames := 4, cells := 0, slots := 0, locals := 86 } : Room) s m args below meth c H locs 0 0 (MQ below (QO (PoC G skR σ0) A0 (some (.int r0))) args s 0 0 A0) (F0 m 47 ls [.int x15, .ref (G.2.2.2 + q16)]) := by
        intro q13 x14 x15 q16 σ12 H locs ls h hW hl
        have h := jr5 eJ17 h
        refine lv_iconst (v := (3 : Int32)) E.1 E.2.1 dX7_subtract_47 (by decide) ?_
        obtain ⟨g18, h⟩ := gd_r h
        obtain ⟨x20, σ19, c21, h⟩ := obn_r h
        refine c_V (As := [.int x15, .int (3 : Int32)]) (rest := []) E hW (m_X7_fails c21) g18 rfl kw_1015 wv_X7_fails yo_X7_fails ⟨rfl, rfl⟩ ⟨(Nat.le_of_ble_eq_true rfl), (Nat.le_of_ble_eq_true rfl)⟩ (lv_size hl) (Nat.le_of_ble_eq_true rfl) ⟨(Nat.le_of_ble_eq_true rfl), (Nat.le_of_ble_eq_true rfl)⟩ rfl dX7_subtract_48 (fun H locs hW => ?_)
        refine W.eq (g2 := F0 m 51 ls [.int x20]) rfl ?_
        refine lv_if_eq (tgt := 58) E.1 E.2.1 dX7_subtract_51 (by decide) (fun g => ?_) (fun g => ?_)
        · have h := ifp h g
          refine lv_aload_n E.1 E.2.1 dX7_subtract_58 rfl (lv_at hl 0 rfl) ?_
          refine lv_iload_n E.1 E.2.1 dX7_subtract_59 rfl (lv_at hl 1 rfl) ?_
          obtain ⟨g22, h⟩ := gd_r h
          obtain ⟨x24, σ23, c25, h⟩ := obn_r h
          refine c_V (As := [.int x14]) (rest := []) E hW (m_X7_becomes c25) g22 rfl kw_1254 wv_X7_becomes yo_X7_becomes ⟨rfl, rfl⟩ ⟨(Nat.le_of_ble_eq_true rfl), (Nat.le_of_ble_eq_true rfl)⟩ (lv_size hl) (Nat.le_of_ble_eq_true rfl) ⟨(Nat.le_of_ble_eq_true rfl), (Nat.le_of_ble_eq_true rfl)⟩ rfl dX7_subtract_60 (fun H locs hW => ?_)
          refine W.eq (g2 := F0 m 63 ls [.int x24]) rfl ?_
          exact e_i E hW hr hlk h dX7_subtract_63
        · have h := ifn h g
          refine lv_iconst (v := (0 : Int32)) E.1 E.2.1 dX7_subtract_54 (by decide) ?_
          refine lv_goto (tgt := 63) E.1 E.2.1 dX7_subtract_55 (by decide) ?_
          exact e_i E hW hr hlk h dX7_subtract_63
      refine lv_if_ne (tgt := 46) E.1 E.2.1 dX7_subtract_39 (by decide) (fun g => ?_) (fun g => ?_)
      · have h := ifn h g
        refine lv_iconst (v := (0 : Int32)) E.1 E.2.1 dX7_subtract_46 (by decide) ?_
        exact hJ17 _ _ _ _ _ _ _ _ h hW (lv_sub hl [0, 1] rfl)
      · have h := ifp h g
        refine lv_iconst (v := (1 : Int32)) E.1 E.2.1 dX7_subtract_42 (by decide) ?_
        refine lv_goto (tgt := 47) E.1 E.2.1 dX7_subtract_43 (by decide) ?_
        exact hJ17 _ _ _ _ _ _ _ _ h hW (lv_sub hl [0, 1] rfl)
set_option maxHeartbeats 4000000 in
set_option maxRecDepth 100000 in
theorem m_X7_multiply {l : Launch} {G : GP} {sz : Nat} {q0 : Nat} {a1 : Int32} {a2 : Int32} {a3 : Int32} {σ σ0 : St} {r0 : Int32} (h : f_X7_multiply q0 a1 a2 a3 σ = some (r0, σ0)) : Met l yX7_multiply [.code yX7_multiply cX7_multiply 4 (some .int)] ({ frames := 5, cells := 0, slots := 0, locals := 131 } : Room) (va_Pc [.ref (G.2.2.2 + q0), .int a1, .int a2, .int a3] (PreC G skR sz σ)) (QO (PoC G skR σ0) (Aw G.2.2.2 skR.1 sz) (some (.int r0))) 0 0 (Aw G.2.2.2 skR.1 sz) := by
  refine mkMet (by decide +kernel) (Nat.le_of_ble_eq_true rfl) skR_ok ?_
  intro p e s m below meth c ls E hW hl hr hlk
  have hl : lv_has ls 4 [(0, .ref (G.2.2.2 + q0)), (1, .int a1), (2, .int a2), (3, .int a3)] := hl
  generalize Aw G.2.2.2 skR.1 s.heap.size = A0 at E hW ⊢
  generalize ([.ref (G.2.2.2 + q0), .int a1, .int a2, .int a3] : List Value).toArray = args
  unfold f_X7_multiply at h
  refine lv_aload_n E.1 E.2.1 dX7_multiply_0 rfl (lv_at hl 0 rfl) ?_
  refine lv_iconst (v := (0 : Int32)) E.1 E.2.1 dX7_multiply_1 (by decide) ?_
  obtain ⟨g1, h⟩ := gd_r h
  refine pf_X7_79 E hW g1 dX7_multiply_2 (fun σ2 H locs eσ2 hW => ?_)
  have h := bnd_r eσ2 h
  refine lv_aload_n E.1 E.2.1 dX7_multiply_5 rfl (lv_at hl 0 rfl) ?_
  refine lv_iload_n E.1 E.2.1 dX7_multiply_6 rfl (lv_at hl 1 rfl) ?_
  obtain ⟨x4, σ3, c5, h⟩ := obn_r h
  refine c_V (As := [.int a1]) (rest := []) E hW (m_X7_noIndex c5) g1 rfl kw_1208 wv_X7_noIndex yo_X7_noIndex ⟨rfl, rfl⟩ ⟨(Nat.le_of_ble_eq_true rfl), (Nat.le_of_ble_eq_true rfl)⟩ (lv_size hl) (Nat.le_of_ble_eq_true rfl) ⟨(Nat.le_of_ble_eq_true rfl), (Nat.le_of_ble_eq_true rfl)⟩ rfl dX7_multiply_7 (fun H locs hW => ?_)
  refine W.eq (g2 := F0 m 10 ls [.int x4]) rfl ?_
  refine lv_if_ne (tgt := 54) E.1 E.2.1 dX7_multiply_10 (by decide) (fun g => ?_) (fun g => ?_)
  · have h := ifn h g
    refine lv_iconst (v := (0 : Int32)) E.1 E.2.1 dX7_multiply_54 (by decide) ?_
    refine lv_goto (tgt := 63) E.1 E.2.1 dX7_multiply_55 (by decide) ?_
    exact e_i E hW hr hlk h dX7_multiply_63
  · have h := ifp h g
    refine lv_aload_n E.1 E.2.1 dX7_multiply_13 rfl (lv_at hl 0 rfl) ?_
    refine lv_iload_n E.1 E.2.1 dX7_multiply_14 rfl (lv_at hl 2 rfl) ?_
    refine lv_iload_n E.1 E.2.1 dX7_multiply_15 rfl (lv_at hl 3 rfl) ?_
    obtain ⟨x7, σ6, c8, h⟩ := obn_r h
    refine c_V (As := [.int a2, .int a3]) (rest := []) E hW (m_X7_noPair c8) g1 rfl kw_1238 wv_X7_noPair yo_X7_noPair ⟨rfl, rfl⟩ ⟨(Nat.le_of_ble_eq_true rfl), (Nat.le_of_ble_eq_true rfl)⟩ (lv_size hl) (Nat.le_of_ble_eq_true rfl) ⟨(Nat.le_of_ble_eq_true rfl), (Nat.le_of_ble_eq_true rfl)⟩ rfl dX7_multiply_16 (fun H locs hW => ?_)
    refine W.eq (g2 := F0 m 19 ls [.int x7]) rfl ?_
    refine lv_if_ne (tgt := 54) E.1 E.2.1 dX7_multiply_19 (by decide) (fun g => ?_) (fun g => ?_)
    · have h := ifn h g
      refine lv_iconst (v := (0 : Int32)) E.1 E.2.1 dX7_multiply_54 (by decide) ?_
      refine lv_goto (tgt := 63) E.1 E.2.1 dX7_multiply_55 (by decide) ?_
      exact e_i E hW hr hlk h dX7_multiply_63
    · have h := ifp h g
      refine lv_aload_n E.1 E.2.1 dX7_multiply_22 rfl (lv_at hl 0 rfl) ?_
      refine lv_aload_n E.1 E.2.1 dX7_multiply_23 rfl (lv_at hl 0 rfl) ?_
      refine lv_aload_n E.1 E.2.1 dX7_multiply_24 rfl (lv_at hl 0 rfl) ?_
      refine gf_X7_61 E hW g1 dX7_multiply_25 ?_
      refine lv_aload_n E.1 E.2.1 dX7_multiply_28 rfl (lv_at hl 0 rfl) ?_
      refine gf_X7_64 E hW g1 dX7_multiply_29 ?_
      refine lv_aload_n E.1 E.2.1 dX7_multiply_32 rfl (lv_at hl 0 rfl) ?_
      refine gf_X7_70 E hW g1 dX7_multiply_33 ?_
      obtain ⟨x10, σ9, c11, h⟩ := obn_r h
      refine c_V (As := [.ref (G.2.2.2 + (rR q0 24)), .ref (G.2.2.2 + (rR q0 25)), .ref (G.2.2.2 + (rR q0 27))]) (rest := [.ref (G.2.2.2 + q0)]) E hW (m_X7_productOf c11) g1 rfl kw_1165 wv_X7_productOf yo_X7_productOf ⟨rfl, rfl⟩ ⟨(Nat.le_of_ble_eq_true rfl), (Nat.le_of_ble_eq_true rfl)⟩ (lv_size hl) (Nat.le_of_ble_eq_true rfl) ⟨(Nat.le_of_ble_eq_true rfl), (Nat.le_of_ble_eq_true rfl)⟩ rfl dX7_multiply_36 (fun H locs hW => ?_)
      refine W.eq (g2 := F0 m 39 ls [.int x10, .ref (G.2.2.2 + q0)]) rfl ?_
      obtain ⟨J17, eJ17, h⟩ := bnd_x h
      have hJ17 : ∀ (q13 : Nat) (x14 : Int32) (x15 : Int32) (q16 : Nat) (σ12 : St) (H : Heap) (locs : List Loc) (ls : Array Slot), J17 q13 x14 x15 q16 σ12 = some (r0, σ0) → Wo G skR A0 s σ12 H locs → lv_has ls 4 [(0, .ref (G.2.2.2 + q13)), (1, .int x14)] → W p l e ({ frames := 5, cells := 0, slots := 0, locals := 131 } : Room) s m args below meth c H locs 0 0 (MQ below (QO (PoC G skR σ0) A0 (some (.int r0))) args s 0 0 A0) (F0 m 47 ls [.int x15, .ref (G.2.2.2 + q16)]) := by
        intro q13 x14 x15 q16 σ12 H locs ls h hW hl
        have h := jr5 eJ17 h
        refine lv_iconst (v := (3 : Int32)) E.1 E.2.1 dX7_multiply_47 (by decide) ?_
        obtain ⟨g18, h⟩ := gd_r h
        obtain ⟨x20, σ19, c21, h⟩ := obn_r h
        refine c_V (As := [.int x15, .int (3 : Int32)]) (rest := []) E hW (m_X7_fails c21) g18 rfl kw_1015 wv_X7_fails yo_X7_fails ⟨rfl, rfl⟩ ⟨(Nat.le_of_ble_eq_true rfl), (Nat.le_of_ble_eq_true rfl)⟩ (lv_size hl) (Nat.le_of_ble_eq_true rfl) ⟨(Nat.le_of_ble_eq_true rfl), (Nat.le_of_ble_eq_true rfl)⟩ rfl dX7_multiply_48 (fun H locs hW => ?_)
        refine W.eq (g2 := F0 m 51 ls [.int x20]) rfl ?_
        refine lv_if_eq (tgt := 58) E.1 E.2.1 dX7_multiply_51 (by decide) (fun g => ?_) (fun g => ?_)
        · have h := ifp h g
          refine lv_aload_n E.1 E.2.1 dX7_multiply_58 rfl (lv_at hl 0 rfl) ?_
          refine lv_iload_n E.1 E.2.1 dX7_multiply_59 rfl (lv_at hl 1 rfl) ?_
          obtain ⟨g22, h⟩ := gd_r h
          obtain ⟨x24, σ23, c25, h⟩ := obn_r h
          refine c_V (As := [.int x14]) (rest := []) E hW (m_X7_becomes c25) g22 rfl kw_1254 wv_X7_becomes yo_X7_becomes ⟨rfl, rfl⟩ ⟨(Nat.le_of_ble_eq_true rfl), (Nat.le_of_ble_eq_true rfl)⟩ (lv_size hl) (Nat.le_of_ble_eq_true rfl) ⟨(Nat.le_of_ble_eq_true rfl), (Nat.le_of_ble_eq_true rfl)⟩ rfl dX7_multiply_60 (fun H locs hW => ?_)
          refine W.eq (g2 := F0 m 63 ls [.int x24]) rfl ?_
          exact e_i E hW hr hlk h dX7_multiply_63
        · have h := ifn h g
          refine lv_iconst (v := (0 : Int32)) E.1 E.2.1 dX7_multiply_54 (by decide) ?_
          refine lv_goto (tgt := 63) E.1 E.2.1 dX7_multiply_55 (by decide) ?_
          exact e_i E hW hr hlk h dX7_multiply_63
      refine lv_if_ne (tgt := 46) E.1 E.2.1 dX7_multiply_39 (by decide) (fun g => ?_) (fun g => ?_)
      · have h := ifn h g
        refine lv_iconst (v := (0 : Int32)) E.1 E.2.1 dX7_multiply_46 (by decide) ?_
        exact hJ17 _ _ _ _ _ _ _ _ h hW (lv_sub hl [0, 1] rfl)
      · have h := ifp h g
        refine lv_iconst (v := (1 : Int32)) E.1 E.2.1 dX7_multiply_42 (by decide) ?_
        refine lv_goto (tgt := 47) E.1 E.2.1 dX7_multiply_43 (by decide) ?_
        exact hJ17 _ _ _ _ _ _ _ _ h hW (lv_sub hl [0, 1] rfl)
set_option maxHeartbeats 4000000 in
set_option maxRecDepth 100000 in
theorem m_X7_compose {l : Launch} {G : GP} {sz : Nat} {q0 : Nat} {a1 : Int32} {a2 : Int32} {a3 : Int32} {a4 : Int32} {σ σ0 : St} {r0 : Int32} (h : f_X7_compose q0 a1 a2 a3 a4 σ = some (r0, σ0)) : Met l yX7_compose [.code yX7_compose cX7_compose 5 (some .int)] ({ frames := 6, cells := 0, slots := 0, locals := 158 } : Room) (va_Pc [.ref (G.2.2.2 + q0), .int a1, .int a2, .int a3, .int a4] (PreC G skR sz σ)) (QO (PoC G skR σ0) (Aw G.2.2.2 skR.1 sz) (some (.int r0))) 0 0 (Aw G.2.2.2 skR.1 sz) := by
  refine mkMet (by decide +kernel) (Nat.le_of_ble_eq_true rfl) skR_ok ?_
  intro p e s m below meth c ls E hW hl hr hlk
  have hl : lv_has ls 5 [(0, .ref (G.2.2.2 + q0)), (1, .int a1), (2, .int a2), (3, .int a3), (4, .int a4)] := hl
  generalize Aw G.2.2.2 skR.1 s.heap.size = A0 at E hW ⊢
  generalize ([.ref (G.2.2.2 + q0), .int a1, .int a2, .int a3, .int a4] : List Value).toArray = args
  unfold f_X7_compose at h
  refine lv_aload_n E.1 E.2.1 dX7_compose_0 rfl (lv_at hl 0 rfl) ?_
  refine lv_iconst (v := (0 : Int32)) E.1 E.2.1 dX7_compose_1 (by decide) ?_
  obtain ⟨g1, h⟩ := gd_r h
  refine pf_X7_79 E hW g1 dX7_compose_2 (fun σ2 H locs eσ2 hW => ?_)
  have h := bnd_r eσ2 h
  refine lv_aload_n E.1 E.2.1 dX7_compose_5 rfl (lv_at hl 0 rfl) ?_
  refine lv_iload_n E.1 E.2.1 dX7_compose_6 rfl (lv_at hl 1 rfl) ?_
  obtain ⟨x4, σ3, c5, h⟩ := obn_r h
  refine c_V (As := [.int a1]) (rest := []) E hW (m_X7_noIndex c5) g1 rfl kw_1208 wv_X7_noIndex yo_X7_noIndex ⟨rfl, rfl⟩ ⟨(Nat.le_of_ble_eq_true rfl), (Nat.le_of_ble_eq_true rfl)⟩ (lv_size hl) (Nat.le_of_ble_eq_true rfl) ⟨(Nat.le_of_ble_eq_true rfl), (Nat.le_of_ble_eq_true rfl)⟩ rfl dX7_compose_7 (fun H locs hW => ?_)
  refine W.eq (g2 := F0 m 10 ls [.int x4]) rfl ?_
  refine lv_if_ne (tgt := 60) E.1 E.2.1 dX7_compose_10 (by decide) (fun g => ?_) (fun g => ?_)
  · have h := ifn h g
    refine lv_iconst (v := (0 : Int32)) E.1 E.2.1 dX7_compose_60 (by decide) ?_
    refine lv_goto (tgt := 69) E.1 E.2.1 dX7_compose_61 (by decide) ?_
    exact e_i E hW hr hlk h dX7_compose_69
  · have h := ifp h g
    refine lv_aload_n E.1 E.2.1 dX7_compose_13 rfl (lv_at hl 0 rfl) ?_
    refine lv_iload_n E.1 E.2.1 dX7_compose_14 rfl (lv_at hl 2 rfl) ?_
    refine lv_iload_n E.1 E.2.1 dX7_compose_15 rfl (lv_at hl 3 rfl) ?_
    refine lv_iload E.1 E.2.1 dX7_compose_16 (lv_at hl 4 rfl) ?_
    obtain ⟨x7, σ6, c8, h⟩ := obn_r h
    refine c_V (As := [.int a2, .int a3, .int a4]) (rest := []) E hW (m_X7_noThree c8) g1 rfl kw_1246 wv_X7_noThree yo_X7_noThree ⟨rfl, rfl⟩ ⟨(Nat.le_of_ble_eq_true rfl), (Nat.le_of_ble_eq_true rfl)⟩ (lv_size hl) (Nat.le_of_ble_eq_true rfl) ⟨(Nat.le_of_ble_eq_true rfl), (Nat.le_of_ble_eq_true rfl)⟩ rfl dX7_compose_18 (fun H locs hW => ?_)
    refine W.eq (g2 := F0 m 21 ls [.int x7]) rfl ?_
    refine lv_if_ne (tgt := 60) E.1 E.2.1 dX7_compose_21 (by decide) (fun g => ?_) (fun g => ?_)
    · have h := ifn h g
      refine lv_iconst (v := (0 : Int32)) E.1 E.2.1 dX7_compose_60 (by decide) ?_
      refine lv_goto (tgt := 69) E.1 E.2.1 dX7_compose_61 (by decide) ?_
      exact e_i E hW hr hlk h dX7_compose_69
    · have h := ifp h g
      refine lv_aload_n E.1 E.2.1 dX7_compose_24 rfl (lv_at hl 0 rfl) ?_
      refine lv_aload_n E.1 E.2.1 dX7_compose_25 rfl (lv_at hl 0 rfl) ?_
      refine lv_aload_n E.1 E.2.1 dX7_compose_26 rfl (lv_at hl 0 rfl) ?_
      refine gf_X7_67 E hW g1 dX7_compose_27 ?_
      refine lv_aload_n E.1 E.2.1 dX7_compose_30 rfl (lv_at hl 0 rfl) ?_
      refine gf_X7_61 E hW g1 dX7_compose_31 ?_
      refine lv_aload_n E.1 E.2.1 dX7_compose_34 rfl (lv_at hl 0 rfl) ?_
      refine gf_X7_64 E hW g1 dX7_compose_35 ?_
      refine lv_aload_n E.1 E.2.1 dX7_compose_38 rfl (lv_at hl 0 rfl) ?_
      refine gf_X7_70 E hW g1 dX7_compose_39 ?_
      obtain ⟨x10, σ9, c11, h⟩ := obn_r h
      refine c_V (As := [.ref (G.2.2.2 + (rR q0 26)), .ref (G.2.2.2 + (rR q0 24)), .ref (G.2.2.2 + (rR q0 25)), .ref (G.2.2.2 + (rR q0 27))]) (rest := [.ref (G.2.2.2 + q0)]) E hW (m_X7_compositionOf c11) g1 rfl kw_1151 wv_X7_compositionOf yo_X7_compositionOf ⟨rfl, rfl⟩ ⟨(Nat.le_of_ble_eq_true rfl), (Nat.le_of_ble_eq_true rfl)⟩ (lv_size hl) (Nat.le_of_ble_eq_true rfl) ⟨(Nat.le_of_ble_eq_true rfl), (Nat.le_of_ble_eq_true rfl)⟩ rfl dX7_compose_42 (fun H locs hW => ?_)
      refine W.eq (g2 := F0 m 45 ls [.int x10, .ref (G.2.2.2 + q0)]) rfl ?_
      obtain ⟨J17, eJ17, h⟩ := bnd_x h
      have hJ17 : ∀ (q13 : Nat) (x14 : Int32) (x15 : Int32) (q16 : Nat) (σ12 : St) (H : Heap) (locs : List Loc) (ls : Array Slot), J17 q13 x14 x15 q16 σ12 = some (r0, σ0) → Wo G skR A0 s σ12 H locs → lv_has ls 5 [(0, .ref (G.2.2.2 + q13)), (1, .int x14)] → W p l e ({ frames := 6, cells := 0, slots := 0, locals := 158 } : Room) s m args below meth c H locs 0 0 (MQ below (QO (PoC G skR σ0) A0 (some (.int r0))) args s 0 0 A0) (F0 m 53 ls [.int x15, .ref (G.2.2.2 + q16)]) := by
        intro q13 x14 x15 q16 σ12 H locs ls h hW hl
        have h := jr5 eJ17 h
        refine lv_iconst (v := (3 : Int32)) E.1 E.2.1 dX7_compose_53 (by decide) ?_
        obtain ⟨g18, h⟩ := gd_r h
        obtain ⟨x20, σ19, c21, h⟩ := obn_r h
        refine c_V (As := [.int x15, .int (3 : Int32)]) (rest := []) E hW (m_X7_fails c21) g18 rfl kw_1015 wv_X7_fails yo_X7_fails ⟨rfl, rfl⟩ ⟨(Nat.le_of_ble_eq_true rfl), (Nat.le_of_ble_eq_true rfl)⟩ (lv_size hl) (Nat.le_of_ble_eq_true rfl) ⟨(Nat.le_of_ble_eq_true rfl), (Nat.le_of_ble_eq_true rfl)⟩ rfl dX7_compose_54 (fun H locs hW => ?_)
        refine W.eq (g2 := F0 m 57 ls [.int x20]) rfl ?_
        refine lv_if_eq (tgt := 64) E.1 E.2.1 dX7_compose_57 (by decide) (fun g => ?_) (fun g => ?_)
        · have h := ifp h g
          refine lv_aload_n E.1 E.2.1 dX7_compose_64 rfl (lv_at hl 0 rfl) ?_
          refine lv_iload_n E.1 E.2.1 dX7_compose_65 rfl (lv_at hl 1 rfl) ?_
          obtain ⟨g22, h⟩ := gd_r h
          obtain ⟨x24, σ23, c25, h⟩ := obn_r h
          refine c_V (As := [.int x14]) (rest := []) E hW (m_X7_becomes c25) g22 rfl kw_1254 wv_X7_becomes yo_X7_becomes ⟨rfl, rfl⟩ ⟨(Nat.le_of_ble_eq_true rfl), (Nat.le_of_ble_eq_true rfl)⟩ (lv_size hl) (Nat.le_of_ble_eq_true rfl) ⟨(Nat.le_of_ble_eq_true rfl), (Nat.le_of_ble_eq_true rfl)⟩ rfl dX7_compose_66 (fun H locs hW => ?_)
          refine W.eq (g2 := F0 m 69 ls [.int x24]) rfl ?_
          exact e_i E hW hr hlk h dX7_compose_69
        · have h := ifn h g
          refine lv_iconst (v := (0 : Int32)) E.1 E.2.1 dX7_compose_60 (by decide) ?_
          refine lv_goto (tgt := 69) E.1 E.2.1 dX7_compose_61 (by decide) ?_
          exact e_i E hW hr hlk h dX7_compose_69
      refine lv_if_eq (tgt := 52) E.1 E.2.1 dX7_compose_45 (by decide) (fun g => ?_) (fun g => ?_)
      · have h := ifp h g
        refine lv_iconst (v := (0 : Int32)) E.1 E.2.1 dX7_compose_52 (by decide) ?_
        exact hJ17 _ _ _ _ _ _ _ _ h hW (lv_sub hl [0, 1] rfl)
      · have h := ifn h g
        refine lv_iconst (v := (1 : Int32)) E.1 E.2.1 dX7_compose_48 (by decide) ?_
        refine lv_goto (tgt := 53) E.1 E.2.1 dX7_compose_49 (by decide) ?_
        exact hJ17 _ _ _ _ _ _ _ _ h hW (lv_sub hl [0, 1] rfl)
set_option maxHeartbeats 4000000 in
set_option maxRecDepth 100000 in
theorem m_X7_integrate {l : Launch} {G : GP} {sz : Nat} {q0 : Nat} {a1 : Int32} {a2 : Int32} {a3 : Int32} {σ σ0 : St} {r0 : Int32} (h : f_X7_integrate q0 a1 a2 a3 σ = some (r0, σ0)) : Met l yX7_integrate [.code yX7_integrate cX7_integrate 4 (some .int)] ({ frames := 4, cells := 0, slots := 0, locals := 96 } : Room) (va_Pc [.ref (G.2.2.2 + q0), .int a1, .int a2, .int a3] (PreC G skR sz σ)) (QO (PoC G skR σ0) (Aw G.2.2.2 skR.1 sz) (some (.int r0))) 0 0 (Aw G.2.2.2 skR.1 sz) := by
  refine mkMet (by decide +kernel) (Nat.le_of_ble_eq_true rfl) skR_ok ?_
  intro p e s m below meth c ls E hW hl hr hlk
  have hl : lv_has ls 4 [(0, .ref (G.2.2.2 + q0)), (1, .int a1), (2, .int a2), (3, .int a3)] := hl
  generalize Aw G.2.2.2 skR.1 s.heap.size = A0 at E hW ⊢
  generalize ([.ref (G.2.2.2 + q0), .int a1, .int a2, .int a3] : List Value).toArray = args
  unfold f_X7_integrate at h
  refine lv_aload_n E.1 E.2.1 dX7_integrate_0 rfl (lv_at hl 0 rfl) ?_
  refine lv_iconst (v := (0 : Int32)) E.1 E.2.1 dX7_integrate_1 (by decide) ?_
  obtain ⟨g1, h⟩ := gd_r h
  refine pf_X7_79 E hW g1 dX7_integrate_2 (fun σ2 H locs eσ2 hW => ?_)
  have h := bnd_r eσ2 h
  refine lv_aload_n E.1 E.2.1 dX7_integrate_5 rfl (lv_at hl 0 rfl) ?_
  refine lv_iload_n E.1 E.2.1 dX7_integrate_6 rfl (lv_at hl 1 rfl) ?_
  obtain ⟨x4, σ3, c5, h⟩ := obn_r h
  refine c_V (As := [.int a1]) (rest := []) E hW (m_X7_noIndex c5) g1 rfl kw_1208 wv_X7_noIndex yo_X7_noIndex ⟨rfl, rfl⟩ ⟨(Nat.le_of_ble_eq_true rfl), (Nat.le_of_ble_eq_true rfl)⟩ (lv_size hl) (Nat.le_of_ble_eq_true rfl) ⟨(Nat.le_of_ble_eq_true rfl), (Nat.le_of_ble_eq_true rfl)⟩ rfl dX7_integrate_7 (fun H locs hW => ?_)
  refine W.eq (g2 := F0 m 10 ls [.int x4]) rfl ?_
  refine lv_if_ne (tgt := 43) E.1 E.2.1 dX7_integrate_10 (by decide) (fun g => ?_) (fun g => ?_)
  · have h := ifn h g
    refine lv_iconst (v := (0 : Int32)) E.1 E.2.1 dX7_integrate_43 (by decide) ?_
    exact e_i E hW hr hlk h dX7_integrate_44
  · have h := ifp h g
    refine lv_aload_n E.1 E.2.1 dX7_integrate_13 rfl (lv_at hl 0 rfl) ?_
    refine lv_iload_n E.1 E.2.1 dX7_integrate_14 rfl (lv_at hl 2 rfl) ?_
    obtain ⟨x7, σ6, c8, h⟩ := obn_r h
    refine c_V (As := [.int a2]) (rest := []) E hW (m_X7_noModel c8) g1 rfl kw_1204 wv_X7_noModel yo_X7_noModel ⟨rfl, rfl⟩ ⟨(Nat.le_of_ble_eq_true rfl), (Nat.le_of_ble_eq_true rfl)⟩ (lv_size hl) (Nat.le_of_ble_eq_true rfl) ⟨(Nat.le_of_ble_eq_true rfl), (Nat.le_of_ble_eq_true rfl)⟩ rfl dX7_integrate_15 (fun H locs hW => ?_)
    refine W.eq (g2 := F0 m 18 ls [.int x7]) rfl ?_
    refine lv_if_ne (tgt := 43) E.1 E.2.1 dX7_integrate_18 (by decide) (fun g => ?_) (fun g => ?_)
    · have h := ifn h g
      refine lv_iconst (v := (0 : Int32)) E.1 E.2.1 dX7_integrate_43 (by decide) ?_
      exact e_i E hW hr hlk h dX7_integrate_44
    · have h := ifp h g
      refine lv_aload_n E.1 E.2.1 dX7_integrate_21 rfl (lv_at hl 0 rfl) ?_
      refine lv_iload_n E.1 E.2.1 dX7_integrate_22 rfl (lv_at hl 3 rfl) ?_
      refine lv_iconst (v := (0 : Int32)) E.1 E.2.1 dX7_integrate_23 (by decide) ?_
      refine lv_iconst (v := (1 : Int32)) E.1 E.2.1 dX7_integrate_24 (by decide) ?_
      obtain ⟨x10, σ9, c11, h⟩ := obn_r h
      refine c_S (As := [.int a3, .int (0 : Int32), .int (1 : Int32)]) (rest := [.ref (G.2.2.2 + q0)]) E hW (m_X7_in c11) kw_1012 ws_X7_in yo_X7_in ⟨rfl, rfl⟩ ⟨(Nat.le_of_ble_eq_true rfl), (Nat.le_of_ble_eq_true rfl)⟩ (lv_size hl) (Nat.le_of_ble_eq_true rfl) ⟨(Nat.le_of_ble_eq_true rfl), (Nat.le_of_ble_eq_true rfl)⟩ rfl dX7_integrate_25 (fun H locs hW => ?_)
      refine W.eq (g2 := F0 m 28 ls [.int x10, .ref (G.2.2.2 + q0)]) rfl ?_
      obtain ⟨J19, eJ19, h⟩ := bnd_x h
      have hJ19 : ∀ (q13 : Nat) (x14 : Int32) (x15 : Int32) (x16 : Int32) (x17 : Int32) (q18 : Nat) (σ12 : St) (H : Heap) (locs : List Loc) (ls : Array Slot), J19 q13 x14 x15 x16 x17 q18 σ12 = some (r0, σ0) → Wo G skR A0 s σ12 H locs → lv_has ls 4 [(0, .ref (G.2.2.2 + q13)), (1, .int x14), (2, .int x15), (3, .int x16)] → W p l e ({ frames := 4, cells := 0, slots := 0, locals := 96 } : Room) s m args below meth c H locs 0 0 (MQ below (QO (PoC G skR σ0) A0 (some (.int r0))) args s 0 0 A0) (F0 m 36 ls [.int x17, .ref (G.2.2.2 + q18)]) := by
        intro q13 x14 x15 x16 x17 q18 σ12 H locs ls h hW hl
        have h := jr7 eJ19 h
        refine lv_iconst (v := (3 : Int32)) E.1 E.2.1 dX7_integrate_36 (by decide) ?_
        obtain ⟨g20, h⟩ := gd_r h
        obtain ⟨x22, σ21, c23, h⟩ := obn_r h
        refine c_V (As := [.int x17, .int (3 : Int32)]) (rest := []) E hW (m_X7_fails c23) g20 rfl kw_1015 wv_X7_fails yo_X7_fails ⟨rfl, rfl⟩ ⟨(Nat.le_of_ble_eq_true rfl), (Nat.le_of_ble_eq_true rfl)⟩ (lv_size hl) (Nat.le_of_ble_eq_true rfl) ⟨(Nat.le_of_ble_eq_true rfl), (Nat.le_of_ble_eq_true rfl)⟩ rfl dX7_integrate_37 (fun H locs hW => ?_)
        refine W.eq (g2 := F0 m 40 ls [.int x22]) rfl ?_
        refine lv_if_eq (tgt := 45) E.1 E.2.1 dX7_integrate_40 (by decide) (fun g => ?_) (fun g => ?_)
        · have h := ifp h g
          refine lv_aload_n E.1 E.2.1 dX7_integrate_45 rfl (lv_at hl 0 rfl) ?_
          obtain ⟨g24, h⟩ := gd_r h
          refine gf_X7_17 E hW g24 dX7_integrate_46 ?_
          refine lv_iload_n E.1 E.2.1 dX7_integrate_49 rfl (lv_at hl 2 rfl) ?_
          refine lv_aload_n E.1 E.2.1 dX7_integrate_50 rfl (lv_at hl 0 rfl) ?_
          refine gf_X7_61 E hW g24 dX7_integrate_51 ?_
          obtain ⟨_r, σ25, c26, h⟩ := obn_r h
          refine c_S (As := [.ref (G.2.2.2 + (rR q13 8)), .int x15, .ref (G.2.2.2 + (rR q13 24))]) (rest := []) E hW (m_X7_take c26) kw_1148 ws_X7_take yo_X7_take ⟨rfl, rfl⟩ ⟨(Nat.le_of_ble_eq_true rfl), (Nat.le_of_ble_eq_true rfl)⟩ (lv_size hl) (Nat.le_of_ble_eq_true rfl) ⟨(Nat.le_of_ble_eq_true rfl), (Nat.le_of_ble_eq_true rfl)⟩ rfl dX7_integrate_54 (fun H locs hW => ?_)
          refine W.eq (g2 := F0 m 57 ls []) rfl ?_
          refine lv_aload_n E.1 E.2.1 dX7_integrate_57 rfl (lv_at hl 0 rfl) ?_
          refine lv_aload_n E.1 E.2.1 dX7_integrate_58 rfl (lv_at hl 0 rfl) ?_
          refine lv_aload_n E.1 E.2.1 dX7_integrate_59 rfl (lv_at hl 0 rfl) ?_
          refine gf_X7_61 E hW g24 dX7_integrate_60 ?_
          refine lv_iload_n E.1 E.2.1 dX7_integrate_63 rfl (lv_at hl 3 rfl) ?_
          refine lv_aload_n E.1 E.2.1 dX7_integrate_64 rfl (lv_at hl 0 rfl) ?_
          refine gf_X7_70 E hW g24 dX7_integrate_65 ?_
          obtain ⟨x28, σ27, c29, h⟩ := obn_r h
          refine c_V (As := [.ref (G.2.2.2 + (rR q13 24)), .int x16, .ref (G.2.2.2 + (rR q13 27))]) (rest := [.ref (G.2.2.2 + q13)]) E hW (m_X7_integralOf c29) g24 rfl kw_1103 wv_X7_integralOf yo_X7_integralOf ⟨rfl, rfl⟩ ⟨(Nat.le_of_ble_eq_true rfl), (Nat.le_of_ble_eq_true rfl)⟩ (lv_size hl) (Nat.le_of_ble_eq_true rfl) ⟨(Nat.le_of_ble_eq_true rfl), (Nat.le_of_ble_eq_true rfl)⟩ rfl dX7_integrate_68 (fun H locs hW => ?_)
          refine W.eq (g2 := F0 m 71 ls [.int x28, .ref (G.2.2.2 + q13)]) rfl ?_
          obtain ⟨J35, eJ35, h⟩ := bnd_x h
          have hJ35 : ∀ (q31 : Nat) (x32 : Int32) (x33 : Int32) (q34 : Nat) (σ30 : St) (H : Heap) (locs : List Loc) (ls : Array Slot), J35 q31 x32 x33 q34 σ30 = some (r0, σ0) → Wo G skR A0 s σ30 H locs → lv_has ls 4 [(0, .ref (G.2.2.2 + q31)), (1, .int x32)] → W p l e ({ frames := 4, cells := 0, slots := 0, locals := 96 } : Room) s m args below meth c H locs 0 0 (MQ below (QO (PoC G skR σ0) A0 (some (.int r0))) args s 0 0 A0) (F0 m 79 ls [.int x33, .ref (G.2.2.2 + q34)]) := by
            intro q31 x32 x33 q34 σ30 H locs ls h hW hl
            have h := jr5 eJ35 h
            refine lv_iconst (v := (4 : Int32)) E.1 E.2.1 dX7_integrate_79 (by decide) ?_
            obtain ⟨g36, h⟩ := gd_r h
            obtain ⟨x38, σ37, c39, h⟩ := obn_r h
            refine c_V (As := [.int x33, .int (4 : Int32)]) (rest := []) E hW (m_X7_fails c39) g36 rfl kw_1015 wv_X7_fails yo_X7_fails ⟨rfl, rfl⟩ ⟨(Nat.le_of_ble_eq_true rfl), (Nat.le_of_ble_eq_true rfl)⟩ (lv_size hl) (Nat.le_of_ble_eq_true rfl) ⟨(Nat.le_of_ble_eq_true rfl), (Nat.le_of_ble_eq_true rfl)⟩ rfl dX7_integrate_80 (fun H locs hW => ?_)
            refine W.eq (g2 := F0 m 83 ls [.int x38]) rfl ?_
            refine lv_if_eq (tgt := 90) E.1 E.2.1 dX7_integrate_83 (by decide) (fun g => ?_) (fun g => ?_)
            · have h := ifp h g
              refine lv_aload_n E.1 E.2.1 dX7_integrate_90 rfl (lv_at hl 0 rfl) ?_
              refine lv_iload_n E.1 E.2.1 dX7_integrate_91 rfl (lv_at hl 1 rfl) ?_
              obtain ⟨g40, h⟩ := gd_r h
              obtain ⟨x42, σ41, c43, h⟩ := obn_r h
              refine c_V (As := [.int x32]) (rest := []) E hW (m_X7_becomes c43) g40 rfl kw_1254 wv_X7_becomes yo_X7_becomes ⟨rfl, rfl⟩ ⟨(Nat.le_of_ble_eq_true rfl), (Nat.le_of_ble_eq_true rfl)⟩ (lv_size hl) (Nat.le_of_ble_eq_true rfl) ⟨(Nat.le_of_ble_eq_true rfl), (Nat.le_of_ble_eq_true rfl)⟩ rfl dX7_integrate_92 (fun H locs hW => ?_)
              refine W.eq (g2 := F0 m 95 ls [.int x42]) rfl ?_
              exact e_i E hW hr hlk h dX7_integrate_95
            · have h := ifn h g
              refine lv_iconst (v := (0 : Int32)) E.1 E.2.1 dX7_integrate_86 (by decide) ?_
              refine lv_goto (tgt := 95) E.1 E.2.1 dX7_integrate_87 (by decide) ?_
              exact e_i E hW hr hlk h dX7_integrate_95
          refine lv_if_ne (tgt := 78) E.1 E.2.1 dX7_integrate_71 (by decide) (fun g => ?_) (fun g => ?_)
          · have h := ifn h g
            refine lv_iconst (v := (0 : Int32)) E.1 E.2.1 dX7_integrate_78 (by decide) ?_
            exact hJ35 _ _ _ _ _ _ _ _ h hW (lv_sub hl [0, 1] rfl)
          · have h := ifp h g
            refine lv_iconst (v := (1 : Int32)) E.1 E.2.1 dX7_integrate_74 (by decide) ?_
            refine lv_goto (tgt := 79) E.1 E.2.1 dX7_integrate_75 (by decide) ?_
            exact hJ35 _ _ _ _ _ _ _ _ h hW (lv_sub hl [0, 1] rfl)
        · have h := ifn h g
          refine lv_iconst (v := (0 : Int32)) E.1 E.2.1 dX7_integrate_43 (by decide) ?_
          exact e_i E hW hr hlk h dX7_integrate_44
      refine lv_if_ne (tgt := 35) E.1 E.2.1 dX7_integrate_28 (by decide) (fun g => ?_) (fun g => ?_)
      · have h := ifn h g
        refine lv_iconst (v := (0 : Int32)) E.1 E.2.1 dX7_integrate_35 (by decide) ?_
        exact hJ19 _ _ _ _ _ _ _ _ _ _ h hW (lv_sub hl [0, 1, 2, 3] rfl)
      · have h := ifp h g
        refine lv_iconst (v := (1 : Int32)) E.1 E.2.1 dX7_integrate_31 (by decide) ?_
        refine lv_goto (tgt := 36) E.1 E.2.1 dX7_integrate_32 (by decide) ?_
        exact hJ19 _ _ _ _ _ _ _ _ _ _ h hW (lv_sub hl [0, 1, 2, 3] rfl)
set_option maxHeartbeats 4000000 in
set_option maxRecDepth 100000 in
theorem m_X7_stepOf {l : Launch} {G : GP} {sz : Nat} {q0 : Nat} {a1 : Int32} {a2 : Int32} {a3 : Int32} {q4 : Nat} {σ σ0 : St} {r0 : Int32} (h : f_X7_stepOf q0 a1 a2 a3 q4 σ = some (r0, σ0)) : Met l yX7_stepOf [.code yX7_stepOf cX7_stepOf 5 (some .boolean)] ({ frames := 6, cells := 0, slots := 0, locals := 158 } : Room) (va_Pc [.ref (G.2.2.2 + q0), .int a1, .int a2, .int a3, .ref (G.2.2.2 + q4)] (PreC G skR sz σ)) (QO (PoC G skR σ0) (Aw G.2.2.2 skR.1 sz) (some (.int r0))) 0 0 (Aw G.2.2.2 skR.1 sz) := by
  refine mkMet (by decide +kernel) (Nat.le_of_ble_eq_true rfl) skR_ok ?_
  intro p e s m below meth c ls E hW hl hr hlk
  have hl : lv_has ls 5 [(0, .ref (G.2.2.2 + q0)), (1, .int a1), (2, .int a2), (3, .int a3), (4, .ref (G.2.2.2 + q4))] := hl
  generalize Aw G.2.2.2 skR.1 s.heap.size = A0 at E hW ⊢
  generalize ([.ref (G.2.2.2 + q0), .int a1, .int a2, .int a3, .ref (G.2.2.2 + q4)] : List Value).toArray = args
  unfold f_X7_stepOf at h
  refine lv_aload_n E.1 E.2.1 dX7_stepOf_0 rfl (lv_at hl 0 rfl) ?_
  obtain ⟨g1, h⟩ := gd_r h
  refine gf_X7_17 E hW g1 dX7_stepOf_1 ?_
  refine lv_iconst (v := (0 : Int32)) E.1 E.2.1 dX7_stepOf_4 (by decide) ?_
  refine lv_aload_n E.1 E.2.1 dX7_stepOf_5 rfl (lv_at hl 0 rfl) ?_
  refine gf_X7_61 E hW g1 dX7_stepOf_6 ?_
  obtain ⟨_r, σ2, c3, h⟩ := obn_r h
  refine c_S (As := [.ref (G.2.2.2 + (rR q0 8)), .int (0 : Int32), .ref (G.2.2.2 + (rR q0 24))]) (rest := []) E hW (m_X7_take c3) kw_1148 ws_X7_take yo_X7_take ⟨rfl, rfl⟩ ⟨(Nat.le_of_ble_eq_true rfl), (Nat.le_of_ble_eq_true rfl)⟩ (lv_size hl) (Nat.le_of_ble_eq_true rfl) ⟨(Nat.le_of_ble_eq_true rfl), (Nat.le_of_ble_eq_true rfl)⟩ rfl dX7_stepOf_9 (fun H locs hW => ?_)
  refine W.eq (g2 := F0 m 12 ls []) rfl ?_
  refine lv_aload_n E.1 E.2.1 dX7_stepOf_12 rfl (lv_at hl 0 rfl) ?_
  refine gf_X7_17 E hW g1 dX7_stepOf_13 ?_
  refine lv_iconst (v := (1 : Int32)) E.1 E.2.1 dX7_stepOf_16 (by decide) ?_
  refine lv_aload_n E.1 E.2.1 dX7_stepOf_17 rfl (lv_at hl 0 rfl) ?_
  refine gf_X7_64 E hW g1 dX7_stepOf_18 ?_
  obtain ⟨_r, σ4, c5, h⟩ := obn_r h
  refine c_S (As := [.ref (G.2.2.2 + (rR q0 8)), .int (1 : Int32), .ref (G.2.2.2 + (rR q0 25))]) (rest := []) E hW (m_X7_take c5) kw_1148 ws_X7_take yo_X7_take ⟨rfl, rfl⟩ ⟨(Nat.le_of_ble_eq_true rfl), (Nat.le_of_ble_eq_true rfl)⟩ (lv_size hl) (Nat.le_of_ble_eq_true rfl) ⟨(Nat.le_of_ble_eq_true rfl), (Nat.le_of_ble_eq_true rfl)⟩ rfl dX7_stepOf_21 (fun H locs hW => ?_)
  refine W.eq (g2 := F0 m 24 ls []) rfl ?_
  refine lv_aload_n E.1 E.2.1 dX7_stepOf_24 rfl (lv_at hl 0 rfl) ?_
  refine gf_X7_17 E hW g1 dX7_stepOf_25 ?_
  refine lv_iload_n E.1 E.2.1 dX7_stepOf_28 rfl (lv_at hl 2 rfl) ?_
  refine lv_aload_n E.1 E.2.1 dX7_stepOf_29 rfl (lv_at hl 0 rfl) ?_
  refine gf_X7_67 E hW g1 dX7_stepOf_30 ?_
  obtain ⟨_r, σ6, c7, h⟩ := obn_r h
  refine c_S (As := [.ref (G.2.2.2 + (rR q0 8)), .int a2, .ref (G.2.2.2 + (rR q0 26))]) (rest := []) E hW (m_X7_take c7) kw_1148 ws_X7_take yo_X7_take ⟨rfl, rfl⟩ ⟨(Nat.le_of_ble_eq_true rfl), (Nat.le_of_ble_eq_true rfl)⟩ (lv_size hl) (Nat.le_of_ble_eq_true rfl) ⟨(Nat.le_of_ble_eq_true rfl), (Nat.le_of_ble_eq_true rfl)⟩ rfl dX7_stepOf_33 (fun H locs hW => ?_)
  refine W.eq (g2 := F0 m 36 ls []) rfl ?_
  refine lv_aload_n E.1 E.2.1 dX7_stepOf_36 rfl (lv_at hl 0 rfl) ?_
  refine lv_aload_n E.1 E.2.1 dX7_stepOf_37 rfl (lv_at hl 0 rfl) ?_
  refine gf_X7_67 E hW g1 dX7_stepOf_38 ?_
  refine lv_aload_n E.1 E.2.1 dX7_stepOf_41 rfl (lv_at hl 0 rfl) ?_
  refine gf_X7_61 E hW g1 dX7_stepOf_42 ?_
  refine lv_aload_n E.1 E.2.1 dX7_stepOf_45 rfl (lv_at hl 0 rfl) ?_
  refine gf_X7_64 E hW g1 dX7_stepOf_46 ?_
  refine lv_aload_n E.1 E.2.1 dX7_stepOf_49 rfl (lv_at hl 0 rfl) ?_
  refine gf_X7_70 E hW g1 dX7_stepOf_50 ?_
  obtain ⟨x9, σ8, c10, h⟩ := obn_r h
  refine c_V (As := [.ref (G.2.2.2 + (rR q0 26)), .ref (G.2.2.2 + (rR q0 24)), .ref (G.2.2.2 + (rR q0 25)), .ref (G.2.2.2 + (rR q0 27))]) (rest := []) E hW (m_X7_compositionOf c10) g1 rfl kw_1151 wv_X7_compositionOf yo_X7_compositionOf ⟨rfl, rfl⟩ ⟨(Nat.le_of_ble_eq_true rfl), (Nat.le_of_ble_eq_true rfl)⟩ (lv_size hl) (Nat.le_of_ble_eq_true rfl) ⟨(Nat.le_of_ble_eq_true rfl), (Nat.le_of_ble_eq_true rfl)⟩ rfl dX7_stepOf_53 (fun H locs hW => ?_)
  refine W.eq (g2 := F0 m 56 ls [.int x9]) rfl ?_
  refine lv_if_eq (tgt := 61) E.1 E.2.1 dX7_stepOf_56 (by decide) (fun g => ?_) (fun g => ?_)
  · have h := ifp h g
    refine lv_aload_n E.1 E.2.1 dX7_stepOf_61 rfl (lv_at hl 0 rfl) ?_
    refine gf_X7_67 E hW g1 dX7_stepOf_62 ?_
    obtain ⟨_r, σ11, c12, h⟩ := obn_r h
    refine c_S (As := [.ref (G.2.2.2 + (rR q0 26))]) (rest := []) E hW (m_X7_clearRow c12) kw_1066 ws_X7_clearRow yo_X7_clearRow ⟨rfl, rfl⟩ ⟨(Nat.le_of_ble_eq_true rfl), (Nat.le_of_ble_eq_true rfl)⟩ (lv_size hl) (Nat.le_of_ble_eq_true rfl) ⟨(Nat.le_of_ble_eq_true rfl), (Nat.le_of_ble_eq_true rfl)⟩ rfl dX7_stepOf_65 (fun H locs hW => ?_)
    refine W.eq (g2 := F0 m 68 ls []) rfl ?_
    refine lv_aload_n E.1 E.2.1 dX7_stepOf_68 rfl (lv_at hl 0 rfl) ?_
    refine gf_X7_67 E hW g1 dX7_stepOf_69 ?_
    refine lv_iconst (v := (0 : Int32)) E.1 E.2.1 dX7_stepOf_72 (by decide) ?_
    refine lv_iload_n E.1 E.2.1 dX7_stepOf_73 rfl (lv_at hl 3 rfl) ?_
    refine lv_i2l E.1 E.2.1 dX7_stepOf_74 rfl ?_
    obtain ⟨g13, h⟩ := gd_r h
    refine r_last E hW (pr_eq g13.1) g13.2 dX7_stepOf_75 (fun σ14 H locs eσ14 hW => ?_)
    have h := bnd_r eσ14 h
    refine lv_aload_n E.1 E.2.1 dX7_stepOf_76 rfl (lv_at hl 0 rfl) ?_
    refine gf_X7_17 E hW g1 dX7_stepOf_77 ?_
    refine lv_iload_n E.1 E.2.1 dX7_stepOf_80 rfl (lv_at hl 1 rfl) ?_
    refine lv_aload_n E.1 E.2.1 dX7_stepOf_81 rfl (lv_at hl 0 rfl) ?_
    refine gf_X7_61 E hW g1 dX7_stepOf_82 ?_
    obtain ⟨_r, σ15, c16, h⟩ := obn_r h
    refine c_S (As := [.ref (G.2.2.2 + (rR q0 8)), .int a1, .ref (G.2.2.2 + (rR q0 24))]) (rest := []) E hW (m_X7_take c16) kw_1148 ws_X7_take yo_X7_take ⟨rfl, rfl⟩ ⟨(Nat.le_of_ble_eq_true rfl), (Nat.le_of_ble_eq_true rfl)⟩ (lv_size hl) (Nat.le_of_ble_eq_true rfl) ⟨(Nat.le_of_ble_eq_true rfl), (Nat.le_of_ble_eq_true rfl)⟩ rfl dX7_stepOf_85 (fun H locs hW => ?_)
    refine W.eq (g2 := F0 m 88 ls []) rfl ?_
    refine lv_aload_n E.1 E.2.1 dX7_stepOf_88 rfl (lv_at hl 0 rfl) ?_
    refine lv_aload_n E.1 E.2.1 dX7_stepOf_89 rfl (lv_at hl 0 rfl) ?_
    refine gf_X7_67 E hW g1 dX7_stepOf_90 ?_
    refine lv_aload_n E.1 E.2.1 dX7_stepOf_93 rfl (lv_at hl 0 rfl) ?_
    refine gf_X7_70 E hW g1 dX7_stepOf_94 ?_
    refine lv_aload_n E.1 E.2.1 dX7_stepOf_97 rfl (lv_at hl 0 rfl) ?_
    refine gf_X7_70 E hW g1 dX7_stepOf_98 ?_
    obtain ⟨x18, σ17, c19, h⟩ := obn_r h
    refine c_V (As := [.ref (G.2.2.2 + (rR q0 26)), .ref (G.2.2.2 + (rR q0 27)), .ref (G.2.2.2 + (rR q0 27))]) (rest := []) E hW (m_X7_productOf c19) g1 rfl kw_1165 wv_X7_productOf yo_X7_productOf ⟨rfl, rfl⟩ ⟨(Nat.le_of_ble_eq_true rfl), (Nat.le_of_ble_eq_true rfl)⟩ (lv_size hl) (Nat.le_of_ble_eq_true rfl) ⟨(Nat.le_of_ble_eq_true rfl), (Nat.le_of_ble_eq_true rfl)⟩ rfl dX7_stepOf_101 (fun H locs hW => ?_)
    refine W.eq (g2 := F0 m 104 ls [.int x18]) rfl ?_
    refine lv_if_eq (tgt := 128) E.1 E.2.1 dX7_stepOf_104 (by decide) (fun g => ?_) (fun g => ?_)
    · have h := ifp h g
      refine lv_iconst (v := (0 : Int32)) E.1 E.2.1 dX7_stepOf_128 (by decide) ?_
      exact e_z E hW hr hlk (by decide) h dX7_stepOf_129
    · have h := ifn h g
      refine lv_aload_n E.1 E.2.1 dX7_stepOf_107 rfl (lv_at hl 0 rfl) ?_
      refine gf_X7_61 E hW g1 dX7_stepOf_108 ?_
      refine lv_aload_n E.1 E.2.1 dX7_stepOf_111 rfl (lv_at hl 0 rfl) ?_
      refine gf_X7_70 E hW g1 dX7_stepOf_112 ?_
      refine lv_iconst (v := (1 : Int32)) E.1 E.2.1 dX7_stepOf_115 (by decide) ?_
      refine lv_aload E.1 E.2.1 dX7_stepOf_116 (lv_at hl 4 rfl) ?_
      obtain ⟨x21, σ20, c22, h⟩ := obn_r h
      refine c_S (As := [.ref (G.2.2.2 + (rR q0 24)), .ref (G.2.2.2 + (rR q0 27)), .int (1 : Int32), .ref (G.2.2.2 + q4)]) (rest := []) E hW (m_X7_sumOf c22) kw_1179 ws_X7_sumOf yo_X7_sumOf ⟨rfl, rfl⟩ ⟨(Nat.le_of_ble_eq_true rfl), (Nat.le_of_ble_eq_true rfl)⟩ (lv_size hl) (Nat.le_of_ble_eq_true rfl) ⟨(Nat.le_of_ble_eq_true rfl), (Nat.le_of_ble_eq_true rfl)⟩ rfl dX7_stepOf_118 (fun H locs hW => ?_)
      refine W.eq (g2 := F0 m 121 ls [.int x21]) rfl ?_
      refine lv_if_eq (tgt := 128) E.1 E.2.1 dX7_stepOf_121 (by decide) (fun g => ?_) (fun g => ?_)
      · have h := ifp h g
        refine lv_iconst (v := (0 : Int32)) E.1 E.2.1 dX7_stepOf_128 (by decide) ?_
        exact e_z E hW hr hlk (by decide) h dX7_stepOf_129
      · have h := ifn h g
        refine lv_iconst (v := (1 : Int32)) E.1 E.2.1 dX7_stepOf_124 (by decide) ?_
        refine lv_goto (tgt := 129) E.1 E.2.1 dX7_stepOf_125 (by decide) ?_
        exact e_z E hW hr hlk (by decide) h dX7_stepOf_129
  · have h := ifn h g
    refine lv_iconst (v := (0 : Int32)) E.1 E.2.1 dX7_stepOf_59 (by decide) ?_
    exact e_z E hW hr hlk (by decide) h dX7_stepOf_60
set_option maxHeartbeats 4000000 in
set_option maxRecDepth 100000 in
theorem L_X7_step_76 {p : Program} {l : Launch} {e : Env} {s : State} {m : MethodId} {args : Array Value} {below : List Frame} {meth : Method} {c : Code} {G : GP} {A0 : Nat → Prop} {σ0 : St} {r0 : Int32} (E : En p m c s cX7_step 4 yX7_step.cls G A0) (hr : meth.sig.returnType = (some .int)) (hlk : meth.locks = false) : ∀ (n37 : Nat) (q33 : Nat) (x34 : Int32) (x35 : Int32) (x36 : Int32) (σ32 : St) (H : Heap) (locs : List Loc) (ls : Array Slot), f_X7_step_L76 n37 q33 x34 x35 x36 σ32 = some (r0, σ0) → Wo G skR A0 s σ32 H locs → lv_has ls 4 [(0, .ref (G.2.2.2 + q33)), (1, .int x34), (2, .int x35), (3, .int x36)] → W p l e ({ frames := 7, cells := 0, slots := 0, locals := 182 } : Room) s m args below meth c H locs 0 0 (MQ below (QO (PoC G skR σ0) A0 (some (.int r0))) args s 0 0 A0) (F0 m 76 ls []) := by
  intro n37
  induction n37 with
  | zero =>
    intro q33 x34 x35 x36 σ32 H locs ls h hW hl
    rw [f_X7_step_L76] at h
    cases h
  | succ n37 ih =>
    intro q33 x34 x35 x36 σ32 H locs ls h hW hl
    rw [f_X7_step_L76] at h
    refine lv_iload_n E.1 E.2.1 dX7_step_76 rfl (lv_at hl 3 rfl) ?_
    refine lv_iload_n E.1 E.2.1 dX7_step_77 rfl (lv_at hl 2 rfl) ?_
    refine lv_icmp_ge (tgt := 139) E.1 E.2.1 dX7_step_78 (by decide) (fun g => ?_) (fun g => ?_)
    · have h := ifp h g
      refine lv_iload_n E.1 E.2.1 dX7_step_139 rfl (lv_at hl 3 rfl) ?_
      exact e_i E hW hr hlk h dX7_step_140
    · have h := ifn h g
      refine lv_aload_n E.1 E.2.1 dX7_step_81 rfl (lv_at hl 0 rfl) ?_
      refine lv_iconst (v := (0 : Int32)) E.1 E.2.1 dX7_step_82 (by decide) ?_
      refine lv_iconst (v := (2 : Int32)) E.1 E.2.1 dX7_step_83 (by decide) ?_
      refine lv_iload_n E.1 E.2.1 dX7_step_84 rfl (lv_at hl 1 rfl) ?_
      refine lv_aload_n E.1 E.2.1 dX7_step_85 rfl (lv_at hl 0 rfl) ?_
      obtain ⟨g38, h⟩ := gd_r h
      refine gf_X7_73 E hW g38 dX7_step_86 ?_
      obtain ⟨x40, σ39, c41, h⟩ := obn_r h
      refine c_V (As := [.int (0 : Int32), .int (2 : Int32), .int x34, .ref (G.2.2.2 + (rR q33 28))]) (rest := []) E hW (m_X7_stepOf c41) g38 rfl kw_1278 wv_X7_stepOf yo_X7_stepOf ⟨rfl, rfl⟩ ⟨(Nat.le_of_ble_eq_true rfl), (Nat.le_of_ble_eq_true rfl)⟩ (lv_size hl) (Nat.le_of_ble_eq_true rfl) ⟨(Nat.le_of_ble_eq_true rfl), (Nat.le_of_ble_eq_true rfl)⟩ rfl dX7_step_89 (fun H locs hW => ?_)
      refine W.eq (g2 := F0 m 92 ls [.int x40]) rfl ?_
      refine lv_if_eq (tgt := 139) E.1 E.2.1 dX7_step_92 (by decide) (fun g => ?_) (fun g => ?_)
      · have h := ifp h g
        refine lv_iload_n E.1 E.2.1 dX7_step_139 rfl (lv_at hl 3 rfl) ?_
        exact e_i E hW hr hlk h dX7_step_140
      · have h := ifn h g
        refine lv_aload_n E.1 E.2.1 dX7_step_95 rfl (lv_at hl 0 rfl) ?_
        refine lv_iconst (v := (1 : Int32)) E.1 E.2.1 dX7_step_96 (by decide) ?_
        refine lv_iconst (v := (3 : Int32)) E.1 E.2.1 dX7_step_97 (by decide) ?_
        refine lv_iload_n E.1 E.2.1 dX7_step_98 rfl (lv_at hl 1 rfl) ?_
        refine lv_aload_n E.1 E.2.1 dX7_step_99 rfl (lv_at hl 0 rfl) ?_
        refine gf_X7_76 E hW g38 dX7_step_100 ?_
        obtain ⟨x43, σ42, c44, h⟩ := obn_r h
        refine c_V (As := [.int (1 : Int32), .int (3 : Int32), .int x34, .ref (G.2.2.2 + (rR q33 29))]) (rest := []) E hW (m_X7_stepOf c44) g38 rfl kw_1278 wv_X7_stepOf yo_X7_stepOf ⟨rfl, rfl⟩ ⟨(Nat.le_of_ble_eq_true rfl), (Nat.le_of_ble_eq_true rfl)⟩ (lv_size hl) (Nat.le_of_ble_eq_true rfl) ⟨(Nat.le_of_ble_eq_true rfl), (Nat.le_of_ble_eq_true rfl)⟩ rfl dX7_step_103 (fun H locs hW => ?_)
        refine W.eq (g2 := F0 m 106 ls [.int x43]) rfl ?_
        refine lv_if_eq (tgt := 139) E.1 E.2.1 dX7_step_106 (by decide) (fun g => ?_) (fun g => ?_)
        · have h := ifp h g
          refine lv_iload_n E.1 E.2.1 dX7_step_139 rfl (lv_at hl 3 rfl) ?_
          exact e_i E hW hr hlk h dX7_step_140
        · have h := ifn h g
          refine lv_aload_n E.1 E.2.1 dX7_step_109 rfl (lv_at hl 0 rfl) ?_
          refine gf_X7_73 E hW g38 dX7_step_110 ?_
          refine lv_aload_n E.1 E.2.1 dX7_step_113 rfl (lv_at hl 0 rfl) ?_
          refine gf_X7_17 E hW g38 dX7_step_114 ?_
          refine lv_iconst (v := (0 : Int32)) E.1 E.2.1 dX7_step_117 (by decide) ?_
          obtain ⟨_r, σ45, c46, h⟩ := obn_r h
          refine c_S (As := [.ref (G.2.2.2 + (rR q33 28)), .ref (G.2.2.2 + (rR q33 8)), .int (0 : Int32)]) (rest := []) E hW (m_X7_give c46) kw_1182 ws_X7_give yo_X7_give ⟨rfl, rfl⟩ ⟨(Nat.le_of_ble_eq_true rfl), (Nat.le_of_ble_eq_true rfl)⟩ (lv_size hl) (Nat.le_of_ble_eq_true rfl) ⟨(Nat.le_of_ble_eq_true rfl), (Nat.le_of_ble_eq_true rfl)⟩ rfl dX7_step_118 (fun H locs hW => ?_)
          refine W.eq (g2 := F0 m 121 ls []) rfl ?_
          refine lv_aload_n E.1 E.2.1 dX7_step_121 rfl (lv_at hl 0 rfl) ?_
          refine gf_X7_76 E hW g38 dX7_step_122 ?_
          refine lv_aload_n E.1 E.2.1 dX7_step_125 rfl (lv_at hl 0 rfl) ?_
          refine gf_X7_17 E hW g38 dX7_step_126 ?_
          refine lv_iconst (v := (1 : Int32)) E.1 E.2.1 dX7_step_129 (by decide) ?_
          obtain ⟨_r, σ47, c48, h⟩ := obn_r h
          refine c_S (As := [.ref (G.2.2.2 + (rR q33 29)), .ref (G.2.2.2 + (rR q33 8)), .int (1 : Int32)]) (rest := []) E hW (m_X7_give c48) kw_1182 ws_X7_give yo_X7_give ⟨rfl, rfl⟩ ⟨(Nat.le_of_ble_eq_true rfl), (Nat.le_of_ble_eq_true rfl)⟩ (lv_size hl) (Nat.le_of_ble_eq_true rfl) ⟨(Nat.le_of_ble_eq_true rfl), (Nat.le_of_ble_eq_true rfl)⟩ rfl dX7_step_130 (fun H locs hW => ?_)
          refine W.eq (g2 := F0 m 133 ls []) rfl ?_
          obtain ⟨x49, ex49⟩ : ∃ y : Int32, y = x36 + (1 : Int32) := ⟨_, rfl⟩
          have h := bnd_r ex49 h
          refine lv_iinc (v := x49) (lv' := [(3, .int x49), (0, .ref (G.2.2.2 + q33)), (1, .int x34), (2, .int x35)]) E.1 E.2.1 dX7_step_133 hl (k := 3) rfl (by rw [ex49]; rfl) (by decide) rfl (fun ls hl => ?_)
          refine lv_goto (tgt := 76) E.1 E.2.1 dX7_step_136 (by decide) ?_
          exact ih _ _ _ _ _ _ _ _ h hW (lv_sub hl [1, 2, 3, 0] rfl)
set_option maxHeartbeats 4000000 in
set_option maxRecDepth 100000 in
theorem m_X7_step {l : Launch} {G : GP} {sz : Nat} {q0 : Nat} {a1 : Int32} {a2 : Int32} {σ σ0 : St} {r0 : Int32} (h : f_X7_step q0 a1 a2 σ = some (r0, σ0)) : Met l yX7_step [.code yX7_step cX7_step 4 (some .int)] ({ frames := 7, cells := 0, slots := 0, locals := 182 } : Room) (va_Pc [.ref (G.2.2.2 + q0), .int a1, .int a2] (PreC G skR sz σ)) (QO (PoC G skR σ0) (Aw G.2.2.2 skR.1 sz) (some (.int r0))) 0 0 (Aw G.2.2.2 skR.1 sz) := by
  refine mkMet (by decide +kernel) (Nat.le_of_ble_eq_true rfl) skR_ok ?_
  intro p e s m below meth c ls E hW hl hr hlk
  have hl : lv_has ls 4 [(0, .ref (G.2.2.2 + q0)), (1, .int a1), (2, .int a2)] := hl
  generalize Aw G.2.2.2 skR.1 s.heap.size = A0 at E hW ⊢
  generalize ([.ref (G.2.2.2 + q0), .int a1, .int a2] : List Value).toArray = args
  unfold f_X7_step at h
  refine lv_aload_n E.1 E.2.1 dX7_step_0 rfl (lv_at hl 0 rfl) ?_
  refine lv_iconst (v := (0 : Int32)) E.1 E.2.1 dX7_step_1 (by decide) ?_
  obtain ⟨g1, h⟩ := gd_r h
  refine pf_X7_79 E hW g1 dX7_step_2 (fun σ2 H locs eσ2 hW => ?_)
  have h := bnd_r eσ2 h
  refine lv_aload_n E.1 E.2.1 dX7_step_5 rfl (lv_at hl 0 rfl) ?_
  refine lv_aload_n E.1 E.2.1 dX7_step_6 rfl (lv_at hl 0 rfl) ?_
  refine gf_X7_17 E hW g1 dX7_step_7 ?_
  refine lv_iconst (v := (0 : Int32)) E.1 E.2.1 dX7_step_10 (by decide) ?_
  obtain ⟨g3, h⟩ := gd_r h
  refine r_iald E hW (pr_eq g3.1) g3.2 dX7_step_11 ?_
  refine lv_bipush (v := (15 : Int32)) E.1 E.2.1 dX7_step_12 (by decide) ?_
  refine lv_iand E.1 E.2.1 dX7_step_14 ?_
  refine lv_bipush (v := (15 : Int32)) E.1 E.2.1 dX7_step_15 (by decide) ?_
  obtain ⟨J10, eJ10, h⟩ := bnd_x h
  have hJ10 : ∀ (q5 : Nat) (x6 : Int32) (x7 : Int32) (x8 : Int32) (q9 : Nat) (σ4 : St) (H : Heap) (locs : List Loc) (ls : Array Slot), J10 q5 x6 x7 x8 q9 σ4 = some (r0, σ0) → Wo G skR A0 s σ4 H locs → lv_has ls 4 [(0, .ref (G.2.2.2 + q5)), (1, .int x6), (2, .int x7)] → W p l e ({ frames := 7, cells := 0, slots := 0, locals := 182 } : Room) s m args below meth c H locs 0 0 (MQ below (QO (PoC G skR σ0) A0 (some (.int r0))) args s 0 0 A0) (F0 m 25 ls [.int x8, .ref (G.2.2.2 + q9)]) := by
    intro q5 x6 x7 x8 q9 σ4 H locs ls h hW hl
    have h := jr6 eJ10 h
    refine lv_iconst (v := (1 : Int32)) E.1 E.2.1 dX7_step_25 (by decide) ?_
    obtain ⟨g11, h⟩ := gd_r h
    obtain ⟨x13, σ12, c14, h⟩ := obn_r h
    refine c_V (As := [.int x8, .int (1 : Int32)]) (rest := []) E hW (m_X7_fails c14) g11 rfl kw_1015 wv_X7_fails yo_X7_fails ⟨rfl, rfl⟩ ⟨(Nat.le_of_ble_eq_true rfl), (Nat.le_of_ble_eq_true rfl)⟩ (lv_size hl) (Nat.le_of_ble_eq_true rfl) ⟨(Nat.le_of_ble_eq_true rfl), (Nat.le_of_ble_eq_true rfl)⟩ rfl dX7_step_26 (fun H locs hW => ?_)
    refine W.eq (g2 := F0 m 29 ls [.int x13]) rfl ?_
    refine lv_if_ne (tgt := 68) E.1 E.2.1 dX7_step_29 (by decide) (fun g => ?_) (fun g => ?_)
    · have h := ifn h g
      refine lv_iconst (v := (0 : Int32)) E.1 E.2.1 dX7_step_68 (by decide) ?_
      exact e_i E hW hr hlk h dX7_step_69
    · have h := ifp h g
      refine lv_aload_n E.1 E.2.1 dX7_step_32 rfl (lv_at hl 0 rfl) ?_
      refine lv_iload_n E.1 E.2.1 dX7_step_33 rfl (lv_at hl 1 rfl) ?_
      refine lv_sipush (v := (-1000 : Int32)) E.1 E.2.1 dX7_step_34 (by decide) ?_
      refine lv_sipush (v := (1000 : Int32)) E.1 E.2.1 dX7_step_37 (by decide) ?_
      obtain ⟨x16, σ15, c17, h⟩ := obn_r h
      refine c_S (As := [.int x6, .int (-1000 : Int32), .int (1000 : Int32)]) (rest := [.ref (G.2.2.2 + q5)]) E hW (m_X7_in c17) kw_1012 ws_X7_in yo_X7_in ⟨rfl, rfl⟩ ⟨(Nat.le_of_ble_eq_true rfl), (Nat.le_of_ble_eq_true rfl)⟩ (lv_size hl) (Nat.le_of_ble_eq_true rfl) ⟨(Nat.le_of_ble_eq_true rfl), (Nat.le_of_ble_eq_true rfl)⟩ rfl dX7_step_40 (fun H locs hW => ?_)
      refine W.eq (g2 := F0 m 43 ls [.int x16, .ref (G.2.2.2 + q5)]) rfl ?_
      obtain ⟨J24, eJ24, h⟩ := bnd_x h
      have hJ24 : ∀ (q19 : Nat) (x20 : Int32) (x21 : Int32) (x22 : Int32) (q23 : Nat) (σ18 : St) (H : Heap) (locs : List Loc) (ls : Array Slot), J24 q19 x20 x21 x22 q23 σ18 = some (r0, σ0) → Wo G skR A0 s σ18 H locs → lv_has ls 4 [(0, .ref (G.2.2.2 + q19)), (1, .int x20), (2, .int x21)] → W p l e ({ frames := 7, cells := 0, slots := 0, locals := 182 } : Room) s m args below meth c H locs 0 0 (MQ below (QO (PoC G skR σ0) A0 (some (.int r0))) args s 0 0 A0) (F0 m 61 ls [.int x22, .ref (G.2.2.2 + q23)]) := by
        intro q19 x20 x21 x22 q23 σ18 H locs ls h hW hl
        have h := jr6 eJ24 h
        refine lv_iconst (v := (2 : Int32)) E.1 E.2.1 dX7_step_61 (by decide) ?_
        obtain ⟨g25, h⟩ := gd_r h
        obtain ⟨x27, σ26, c28, h⟩ := obn_r h
        refine c_V (As := [.int x22, .int (2 : Int32)]) (rest := []) E hW (m_X7_fails c28) g25 rfl kw_1015 wv_X7_fails yo_X7_fails ⟨rfl, rfl⟩ ⟨(Nat.le_of_ble_eq_true rfl), (Nat.le_of_ble_eq_true rfl)⟩ (lv_size hl) (Nat.le_of_ble_eq_true rfl) ⟨(Nat.le_of_ble_eq_true rfl), (Nat.le_of_ble_eq_true rfl)⟩ rfl dX7_step_62 (fun H locs hW => ?_)
        refine W.eq (g2 := F0 m 65 ls [.int x27]) rfl ?_
        refine lv_if_eq (tgt := 70) E.1 E.2.1 dX7_step_65 (by decide) (fun g => ?_) (fun g => ?_)
        · have h := ifp h g
          refine lv_aload_n E.1 E.2.1 dX7_step_70 rfl (lv_at hl 0 rfl) ?_
          obtain ⟨g29, h⟩ := gd_r h
          obtain ⟨_r, σ30, c31, h⟩ := obn_r h
          refine c_V (As := []) (rest := []) E hW (m_X7_remember c31) g29 rfl kw_1185 wv_X7_remember yo_X7_remember ⟨rfl, rfl⟩ ⟨(Nat.le_of_ble_eq_true rfl), (Nat.le_of_ble_eq_true rfl)⟩ (lv_size hl) (Nat.le_of_ble_eq_true rfl) ⟨(Nat.le_of_ble_eq_true rfl), (Nat.le_of_ble_eq_true rfl)⟩ rfl dX7_step_71 (fun H locs hW => ?_)
          refine W.eq (g2 := F0 m 74 ls []) rfl ?_
          refine lv_iconst (v := (0 : Int32)) E.1 E.2.1 dX7_step_74 (by decide) ?_
          refine lv_istore_n (lv' := [(3, .int (0 : Int32)), (0, .ref (G.2.2.2 + q19)), (1, .int x20), (2, .int x21)]) E.1 E.2.1 dX7_step_75 rfl hl (by decide) rfl (fun ls hl => ?_)
          refine L_X7_step_76 E hr hlk _ _ _ _ _ _ _ _ _ h hW (lv_sub hl [1, 2, 3, 0] rfl)
        · have h := ifn h g
          refine lv_iconst (v := (0 : Int32)) E.1 E.2.1 dX7_step_68 (by decide) ?_
          exact e_i E hW hr hlk h dX7_step_69
      obtain ⟨J55, eJ55, h⟩ := bnd_x h
      have hJ55 : ∀ (q51 : Nat) (x52 : Int32) (x53 : Int32) (q54 : Nat) (σ50 : St) (H : Heap) (locs : List Loc) (ls : Array Slot), J55 q51 x52 x53 q54 σ50 = some (r0, σ0) → Wo G skR A0 s σ50 H locs → lv_has ls 4 [(0, .ref (G.2.2.2 + q51)), (1, .int x52), (2, .int x53)] → W p l e ({ frames := 7, cells := 0, slots := 0, locals := 182 } : Room) s m args below meth c H locs 0 0 (MQ below (QO (PoC G skR σ0) A0 (some (.int r0))) args s 0 0 A0) (F0 m 56 ls [.ref (G.2.2.2 + q54)]) := by
        intro q51 x52 x53 q54 σ50 H locs ls h hW hl
        have h := jr5 eJ55 h
        refine lv_iconst (v := (1 : Int32)) E.1 E.2.1 dX7_step_56 (by decide) ?_
        refine lv_goto (tgt := 61) E.1 E.2.1 dX7_step_57 (by decide) ?_
        exact hJ24 _ _ _ _ _ _ _ _ _ h hW (lv_sub hl [0, 1, 2] rfl)
      refine lv_if_eq (tgt := 56) E.1 E.2.1 dX7_step_43 (by decide) (fun g => ?_) (fun g => ?_)
      · have h := ifp h g
        exact hJ55 _ _ _ _ _ _ _ _ h hW (lv_sub hl [0, 1, 2] rfl)
      · have h := ifn h g
        refine lv_iload_n E.1 E.2.1 dX7_step_46 rfl (lv_at hl 2 rfl) ?_
        refine lv_iconst (v := (1 : Int32)) E.1 E.2.1 dX7_step_47 (by decide) ?_
        refine lv_bipush (v := (20 : Int32)) E.1 E.2.1 dX7_step_48 (by decide) ?_
        obtain ⟨x57, σ56, c58, h⟩ := obn_r h
        refine c_S (As := [.int x7, .int (1 : Int32), .int (20 : Int32)]) (rest := [.ref (G.2.2.2 + q5)]) E hW (m_X7_in c58) kw_1012 ws_X7_in yo_X7_in ⟨rfl, rfl⟩ ⟨(Nat.le_of_ble_eq_true rfl), (Nat.le_of_ble_eq_true rfl)⟩ (lv_size hl) (Nat.le_of_ble_eq_true rfl) ⟨(Nat.le_of_ble_eq_true rfl), (Nat.le_of_ble_eq_true rfl)⟩ rfl dX7_step_50 (fun H locs hW => ?_)
        refine W.eq (g2 := F0 m 53 ls [.int x57, .ref (G.2.2.2 + q5)]) rfl ?_
        refine lv_if_ne (tgt := 60) E.1 E.2.1 dX7_step_53 (by decide) (fun g => ?_) (fun g => ?_)
        · have h := ifn h g
          refine lv_iconst (v := (0 : Int32)) E.1 E.2.1 dX7_step_60 (by decide) ?_
          exact hJ24 _ _ _ _ _ _ _ _ _ h hW (lv_sub hl [0, 1, 2] rfl)
        · have h := ifp h g
          exact hJ55 _ _ _ _ _ _ _ _ h hW (lv_sub hl [0, 1, 2] rfl)
  refine lv_icmp_eq (tgt := 24) E.1 E.2.1 dX7_step_17 (by decide) (fun g => ?_) (fun g => ?_)
  · have h := ifp h g
    refine lv_iconst (v := (0 : Int32)) E.1 E.2.1 dX7_step_24 (by decide) ?_
    exact hJ10 _ _ _ _ _ _ _ _ _ h hW (lv_sub hl [0, 1, 2] rfl)
  · have h := ifn h g
    refine lv_iconst (v := (1 : Int32)) E.1 E.2.1 dX7_step_20 (by decide) ?_
    refine lv_goto (tgt := 25) E.1 E.2.1 dX7_step_21 (by decide) ?_
    exact hJ10 _ _ _ _ _ _ _ _ _ h hW (lv_sub hl [0, 1, 2] rfl)
set_option maxHeartbeats 4000000 in
set_option maxRecDepth 100000 in
theorem L_X7_sweep_56 {p : Program} {l : Launch} {e : Env} {s : State} {m : MethodId} {args : Array Value} {below : List Frame} {meth : Method} {c : Code} {G : GP} {A0 : Nat → Prop} {σ0 : St} {r0 : Int32} {K184 : Nat → Int32 → Int32 → St → Option (Int32 × St)} (E : En p m c s cX7_sweep 5 yX7_sweep.cls G A0) (hr : meth.sig.returnType = (some .int)) (hlk : meth.locks = false) (hK184 : ∀ (q30 : Nat) (x31 : Int32) (x32 : Int32) (σ29 : St) (H : Heap) (locs : List Loc) (ls : Array Slot), K184 q30 x31 x32 σ29 = some (r0, σ0) → Wo G skR A0 s σ29 H locs → lv_has ls 5 [(0, .ref (G.2.2.2 + q30)), (1, .int x31), (3, .int x32)] → W p l e ({ frames := 3, cells := 0, slots := 0, locals := 69 } : Room) s m args below meth c H locs 0 0 (MQ below (QO (PoC G skR σ0) A0 (some (.int r0))) args s 0 0 A0) (F0 m 184 ls [])) : ∀ (n33 : Nat) (q24 : Nat) (x25 : Int32) (x26 : Int32) (x27 : Int32) (x28 : Int32) (σ23 : St) (H : Heap) (locs : List Loc) (ls : Array Slot), f_X7_sweep_L56 K184 n33 q24 x25 x26 x27 x28 σ23 = some (r0, σ0) → Wo G skR A0 s σ23 H locs → lv_has ls 5 [(0, .ref (G.2.2.2 + q24)), (1, .int x25), (2, .int x26), (3, .int x27), (4, .int x28)] → W p l e ({ frames := 3, cells := 0, slots := 0, locals := 69 } : Room) s m args below meth c H locs 0 0 (MQ below (QO (PoC G skR σ0) A0 (some (.int r0))) args s 0 0 A0) (F0 m 56 ls []) := by
  intro n33
  induction n33 with
  | zero =>
    intro q24 x25 x26 x27 x28 σ23 H locs ls h hW hl
    rw [f_X7_sweep_L56] at h
    cases h
  | succ n33 ih =>
    intro q24 x25 x26 x27 x28 σ23 H locs ls h hW hl
    rw [f_X7_sweep_L56] at h
    refine lv_iload E.1 E.2.1 dX7_sweep_56 (lv_at hl 4 rfl) ?_
    refine lv_bipush (v := (10 : Int32)) E.1 E.2.1 dX7_sweep_58 (by decide) ?_
    refine lv_icmp_ge (tgt := 184) E.1 E.2.1 dX7_sweep_60 (by decide) (fun g => ?_) (fun g => ?_)
    · have h := ifp h g
      exact hK184 _ _ _ _ _ _ _ h hW (lv_sub hl [0, 1, 3] rfl)
    · have h := ifn h g
      refine lv_aload_n E.1 E.2.1 dX7_sweep_63 rfl (lv_at hl 0 rfl) ?_
      obtain ⟨g34, h⟩ := gd_r h
      refine gf_X7_70 E hW g34 dX7_sweep_64 ?_
      refine lv_iload E.1 E.2.1 dX7_sweep_67 (lv_at hl 4 rfl) ?_
      obtain ⟨g35, h⟩ := gd_r h
      refine r_lald E hW (pr_eq g35.1) g35.2 dX7_sweep_69 ?_
      refine lv_aload_n E.1 E.2.1 dX7_sweep_70 rfl (lv_at hl 0 rfl) ?_
      refine gf_X7_70 E hW g34 dX7_sweep_71 ?_
      refine lv_iload E.1 E.2.1 dX7_sweep_74 (lv_at hl 4 rfl) ?_
      refine r_lald E hW (pr_eq g35.1) g35.2 dX7_sweep_76 ?_
      refine lv_lneg E.1 E.2.1 dX7_sweep_77 ?_
      obtain ⟨x37, σ36, c38, h⟩ := obn_r h
      refine c_S (As := [.long (σ23.2 (rR q24 27) x28.toNatClampNeg), .long (-(σ23.2 (rR q24 27) x28.toNatClampNeg))]) (rest := []) E hW (m_X7_greater c38) kw_1128 ws_X7_greater yo_X7_greater ⟨rfl, rfl⟩ ⟨(Nat.le_of_ble_eq_true rfl), (Nat.le_of_ble_eq_true rfl)⟩ (lv_size hl) (Nat.le_of_ble_eq_true rfl) ⟨(Nat.le_of_ble_eq_true rfl), (Nat.le_of_ble_eq_true rfl)⟩ rfl dX7_sweep_78 (fun H locs hW => ?_)
      refine W.eq (g2 := F0 m 81 ls [.long x37]) rfl ?_
      refine lv_iload_n E.1 E.2.1 dX7_sweep_81 rfl (lv_at hl 2 rfl) ?_
      refine lv_i2l E.1 E.2.1 dX7_sweep_82 rfl ?_
      refine r_lc_le E dX7_sweep_83 dX7_sweep_84 (tgt := 90) (by decide) (fun g => ?_) (fun g => ?_)
      · have h := ifn h g
        refine lv_iload_n E.1 E.2.1 dX7_sweep_90 rfl (lv_at hl 3 rfl) ?_
        refine lv_aload_n E.1 E.2.1 dX7_sweep_91 rfl (lv_at hl 0 rfl) ?_
        refine gf_X7_70 E hW g34 dX7_sweep_92 ?_
        refine lv_iload E.1 E.2.1 dX7_sweep_95 (lv_at hl 4 rfl) ?_
        refine r_lald E hW (pr_eq g35.1) g35.2 dX7_sweep_97 ?_
        refine lv_lconst (v := (0 : Int64)) E.1 E.2.1 dX7_sweep_98 (by decide) ?_
        obtain ⟨J46, eJ46, h⟩ := bnd_x h
        have hJ46 : ∀ (q40 : Nat) (x41 : Int32) (x42 : Int32) (x43 : Int32) (x44 : Int32) (x45 : Int32) (σ39 : St) (H : Heap) (locs : List Loc) (ls : Array Slot), J46 q40 x41 x42 x43 x44 x45 σ39 = some (r0, σ0) → Wo G skR A0 s σ39 H locs → lv_has ls 5 [(0, .ref (G.2.2.2 + q40)), (1, .int x41), (2, .int x42), (4, .int x43)] → W p l e ({ frames := 3, cells := 0, slots := 0, locals := 69 } : Room) s m args below meth c H locs 0 0 (MQ below (QO (PoC G skR σ0) A0 (some (.int r0))) args s 0 0 A0) (F0 m 108 ls [.int x44, .int x45]) := by
          intro q40 x41 x42 x43 x44 x45 σ39 H locs ls h hW hl
          have h := jr7 eJ46 h
          refine lv_iadd E.1 E.2.1 dX7_sweep_108 ?_
          refine lv_topi (fun x47 ex47 => ?_)
          have h := bnd_r ex47 h
          refine lv_istore_n (lv' := [(3, .int x47), (0, .ref (G.2.2.2 + q40)), (1, .int x41), (2, .int x42), (4, .int x43)]) E.1 E.2.1 dX7_sweep_109 rfl hl (by decide) rfl (fun ls hl => ?_)
          refine lv_aload_n E.1 E.2.1 dX7_sweep_110 rfl (lv_at hl 1 rfl) ?_
          obtain ⟨g48, h⟩ := gd_r h
          refine gf_X7_70 E hW g48 dX7_sweep_111 ?_
          refine lv_bipush (v := (10 : Int32)) E.1 E.2.1 dX7_sweep_114 (by decide) ?_
          refine lv_dup2_11 E.1 E.2.1 dX7_sweep_116 rfl rfl ?_
          obtain ⟨g49, h⟩ := gd_r h
          refine r_lald E hW (pr_eq g49.1) g49.2 dX7_sweep_117 ?_
          refine lv_aload_n E.1 E.2.1 dX7_sweep_118 rfl (lv_at hl 1 rfl) ?_
          refine gf_X7_70 E hW g48 dX7_sweep_119 ?_
          refine lv_iload E.1 E.2.1 dX7_sweep_122 (lv_at hl 4 rfl) ?_
          obtain ⟨g50, h⟩ := gd_r h
          refine r_lald E hW (pr_eq g50.1) g50.2 dX7_sweep_124 ?_
          refine lv_iload E.1 E.2.1 dX7_sweep_125 (lv_at hl 4 rfl) ?_
          obtain ⟨x52, σ51, c53, h⟩ := obn_r h
          refine c_S (As := [.int x43]) (rest := [.long (σ39.2 (rR q40 27) x43.toNatClampNeg), .long (σ39.2 (rR q40 27) (10 : Int32).toNatClampNeg), .int (10 : Int32), .ref (G.2.2.2 + (rR q40 27))]) E hW (m_X7_iOf c53) kw_1107 ws_X7_iOf yo_X7_iOf ⟨rfl, rfl⟩ ⟨(Nat.le_of_ble_eq_true rfl), (Nat.le_of_ble_eq_true rfl)⟩ (lv_size hl) (Nat.le_of_ble_eq_true rfl) ⟨(Nat.le_of_ble_eq_true rfl), (Nat.le_of_ble_eq_true rfl)⟩ rfl dX7_sweep_127 (fun H locs hW => ?_)
          refine W.eq (g2 := F0 m 130 ls [.int x52, .long (σ39.2 (rR q40 27) x43.toNatClampNeg), .long (σ39.2 (rR q40 27) (10 : Int32).toNatClampNeg), .int (10 : Int32), .ref (G.2.2.2 + (rR q40 27))]) rfl ?_
          refine lv_iload E.1 E.2.1 dX7_sweep_130 (lv_at hl 4 rfl) ?_
          obtain ⟨x55, σ54, c56, h⟩ := obn_r h
          refine c_S (As := [.int x43]) (rest := [.int x52, .long (σ39.2 (rR q40 27) x43.toNatClampNeg), .long (σ39.2 (rR q40 27) (10 : Int32).toNatClampNeg), .int (10 : Int32), .ref (G.2.2.2 + (rR q40 27))]) E hW (m_X7_jOf c56) kw_1110 ws_X7_jOf yo_X7_jOf ⟨rfl, rfl⟩ ⟨(Nat.le_of_ble_eq_true rfl), (Nat.le_of_ble_eq_true rfl)⟩ (lv_size hl) (Nat.le_of_ble_eq_true rfl) ⟨(Nat.le_of_ble_eq_true rfl), (Nat.le_of_ble_eq_true rfl)⟩ rfl dX7_sweep_132 (fun H locs hW => ?_)
          refine W.eq (g2 := F0 m 135 ls [.int x55, .int x52, .long (σ39.2 (rR q40 27) x43.toNatClampNeg), .long (σ39.2 (rR q40 27) (10 : Int32).toNatClampNeg), .int (10 : Int32), .ref (G.2.2.2 + (rR q40 27))]) rfl ?_
          obtain ⟨x58, σ57, c59, h⟩ := obn_r h
          refine c_S (As := [.long (σ39.2 (rR q40 27) x43.toNatClampNeg), .int x52, .int x55]) (rest := [.long (σ39.2 (rR q40 27) (10 : Int32).toNatClampNeg), .int (10 : Int32), .ref (G.2.2.2 + (rR q40 27))]) E hW (m_X7_low c59) kw_1113 ws_X7_low yo_X7_low ⟨rfl, rfl⟩ ⟨(Nat.le_of_ble_eq_true rfl), (Nat.le_of_ble_eq_true rfl)⟩ (lv_size hl) (Nat.le_of_ble_eq_true rfl) ⟨(Nat.le_of_ble_eq_true rfl), (Nat.le_of_ble_eq_true rfl)⟩ rfl dX7_sweep_135 (fun H locs hW => ?_)
          refine W.eq (g2 := F0 m 138 ls [.long x58, .long (σ39.2 (rR q40 27) (10 : Int32).toNatClampNeg), .int (10 : Int32), .ref (G.2.2.2 + (rR q40 27))]) rfl ?_
          refine lv_ladd E.1 E.2.1 dX7_sweep_138 ?_
          refine r_last E hW (pr_eq g49.1) g49.2 dX7_sweep_139 (fun σ60 H locs eσ60 hW => ?_)
          have h := bnd_r eσ60 h
          refine lv_aload_n E.1 E.2.1 dX7_sweep_140 rfl (lv_at hl 1 rfl) ?_
          refine gf_X7_70 E hW g48 dX7_sweep_141 ?_
          refine lv_bipush (v := (11 : Int32)) E.1 E.2.1 dX7_sweep_144 (by decide) ?_
          refine lv_dup2_11 E.1 E.2.1 dX7_sweep_146 rfl rfl ?_
          obtain ⟨g61, h⟩ := gd_r h
          refine r_lald E hW (pr_eq g61.1) g61.2 dX7_sweep_147 ?_
          refine lv_aload_n E.1 E.2.1 dX7_sweep_148 rfl (lv_at hl 1 rfl) ?_
          refine gf_X7_70 E hW g48 dX7_sweep_149 ?_
          refine lv_iload E.1 E.2.1 dX7_sweep_152 (lv_at hl 4 rfl) ?_
          refine r_lald E hW (pr_eq g50.1) g50.2 dX7_sweep_154 ?_
          refine lv_iload E.1 E.2.1 dX7_sweep_155 (lv_at hl 4 rfl) ?_
          obtain ⟨x63, σ62, c64, h⟩ := obn_r h
          refine c_S (As := [.int x43]) (rest := [.long (σ60.2 (rR q40 27) x43.toNatClampNeg), .long (σ60.2 (rR q40 27) (11 : Int32).toNatClampNeg), .int (11 : Int32), .ref (G.2.2.2 + (rR q40 27))]) E hW (m_X7_iOf c64) kw_1107 ws_X7_iOf yo_X7_iOf ⟨rfl, rfl⟩ ⟨(Nat.le_of_ble_eq_true rfl), (Nat.le_of_ble_eq_true rfl)⟩ (lv_size hl) (Nat.le_of_ble_eq_true rfl) ⟨(Nat.le_of_ble_eq_true rfl), (Nat.le_of_ble_eq_true rfl)⟩ rfl dX7_sweep_157 (fun H locs hW => ?_)
          refine W.eq (g2 := F0 m 160 ls [.int x63, .long (σ60.2 (rR q40 27) x43.toNatClampNeg), .long (σ60.2 (rR q40 27) (11 : Int32).toNatClampNeg), .int (11 : Int32), .ref (G.2.2.2 + (rR q40 27))]) rfl ?_
          refine lv_iload E.1 E.2.1 dX7_sweep_160 (lv_at hl 4 rfl) ?_
          obtain ⟨x66, σ65, c67, h⟩ := obn_r h
          refine c_S (As := [.int x43]) (rest := [.int x63, .long (σ60.2 (rR q40 27) x43.toNatClampNeg), .long (σ60.2 (rR q40 27) (11 : Int32).toNatClampNeg), .int (11 : Int32), .ref (G.2.2.2 + (rR q40 27))]) E hW (m_X7_jOf c67) kw_1110 ws_X7_jOf yo_X7_jOf ⟨rfl, rfl⟩ ⟨(Nat.le_of_ble_eq_true rfl), (Nat.le_of_ble_eq_true rfl)⟩ (lv_size hl) (Nat.le_of_ble_eq_true rfl) ⟨(Nat.le_of_ble_eq_true rfl), (Nat.le_of_ble_eq_true rfl)⟩ rfl dX7_sweep_162 (fun H locs hW => ?_)
          refine W.eq (g2 := F0 m 165 ls [.int x66, .int x63, .long (σ60.2 (rR q40 27) x43.toNatClampNeg), .long (σ60.2 (rR q40 27) (11 : Int32).toNatClampNeg), .int (11 : Int32), .ref (G.2.2.2 + (rR q40 27))]) rfl ?_
          obtain ⟨x69, σ68, c70, h⟩ := obn_r h
          refine c_S (As := [.long (σ60.2 (rR q40 27) x43.toNatClampNeg), .int x63, .int x66]) (rest := [.long (σ60.2 (rR q40 27) (11 : Int32).toNatClampNeg), .int (11 : Int32), .ref (G.2.2.2 + (rR q40 27))]) E hW (m_X7_high c70) kw_1122 ws_X7_high yo_X7_high ⟨rfl, rfl⟩ ⟨(Nat.le_of_ble_eq_true rfl), (Nat.le_of_ble_eq_true rfl)⟩ (lv_size hl) (Nat.le_of_ble_eq_true rfl) ⟨(Nat.le_of_ble_eq_true rfl), (Nat.le_of_ble_eq_true rfl)⟩ rfl dX7_sweep_165 (fun H locs hW => ?_)
          refine W.eq (g2 := F0 m 168 ls [.long x69, .long (σ60.2 (rR q40 27) (11 : Int32).toNatClampNeg), .int (11 : Int32), .ref (G.2.2.2 + (rR q40 27))]) rfl ?_
          refine lv_ladd E.1 E.2.1 dX7_sweep_168 ?_
          refine r_last E hW (pr_eq g61.1) g61.2 dX7_sweep_169 (fun σ71 H locs eσ71 hW => ?_)
          have h := bnd_r eσ71 h
          refine lv_aload_n E.1 E.2.1 dX7_sweep_170 rfl (lv_at hl 1 rfl) ?_
          refine gf_X7_70 E hW g48 dX7_sweep_171 ?_
          refine lv_iload E.1 E.2.1 dX7_sweep_174 (lv_at hl 4 rfl) ?_
          refine lv_lconst (v := (0 : Int64)) E.1 E.2.1 dX7_sweep_176 (by decide) ?_
          refine r_last E hW (pr_eq g50.1) g50.2 dX7_sweep_177 (fun σ72 H locs eσ72 hW => ?_)
          have h := bnd_r eσ72 h
          obtain ⟨x73, ex73⟩ : ∃ y : Int32, y = x43 + (1 : Int32) := ⟨_, rfl⟩
          have h := bnd_r ex73 h
          refine lv_iinc (v := x73) (lv' := [(4, .int x73), (3, .int x47), (0, .ref (G.2.2.2 + q40)), (1, .int x41), (2, .int x42)]) E.1 E.2.1 dX7_sweep_178 hl (k := 4) rfl (by rw [ex73]; rfl) (by decide) rfl (fun ls hl => ?_)
          refine lv_goto (tgt := 56) E.1 E.2.1 dX7_sweep_181 (by decide) ?_
          exact ih _ _ _ _ _ _ _ _ _ h hW (lv_sub hl [2, 3, 4, 1, 0] rfl)
        refine r_lc_ne E dX7_sweep_99 dX7_sweep_100 (tgt := 107) (by decide) (fun g => ?_) (fun g => ?_)
        · have h := ifn h g
          refine lv_iconst (v := (1 : Int32)) E.1 E.2.1 dX7_sweep_107 (by decide) ?_
          exact hJ46 _ _ _ _ _ _ _ _ _ _ h hW (lv_sub hl [0, 1, 2, 4] rfl)
        · have h := ifp h g
          refine lv_iconst (v := (0 : Int32)) E.1 E.2.1 dX7_sweep_103 (by decide) ?_
          refine lv_goto (tgt := 108) E.1 E.2.1 dX7_sweep_104 (by decide) ?_
          exact hJ46 _ _ _ _ _ _ _ _ _ _ h hW (lv_sub hl [0, 1, 2, 4] rfl)
      · have h := ifp h g
        refine lv_goto (tgt := 178) E.1 E.2.1 dX7_sweep_87 (by decide) ?_
        obtain ⟨x74, ex74⟩ : ∃ y : Int32, y = x28 + (1 : Int32) := ⟨_, rfl⟩
        have h := bnd_r ex74 h
        refine lv_iinc (v := x74) (lv' := [(4, .int x74), (0, .ref (G.2.2.2 + q24)), (1, .int x25), (2, .int x26), (3, .int x27)]) E.1 E.2.1 dX7_sweep_178 hl (k := 4) rfl (by rw [ex74]; rfl) (by decide) rfl (fun ls hl => ?_)
        refine lv_goto (tgt := 56) E.1 E.2.1 dX7_sweep_181 (by decide) ?_
        exact ih _ _ _ _ _ _ _ _ _ h hW (lv_sub hl [1, 2, 3, 4, 0] rfl)
set_option maxHeartbeats 4000000 in
set_option maxRecDepth 100000 in
theorem m_X7_sweep {l : Launch} {G : GP} {sz : Nat} {q0 : Nat} {a1 : Int32} {a2 : Int32} {σ σ0 : St} {r0 : Int32} (h : f_X7_sweep q0 a1 a2 σ = some (r0, σ0)) : Met l yX7_sweep [.code yX7_sweep cX7_sweep 5 (some .int)] ({ frames := 3, cells := 0, slots := 0, locals := 69 } : Room) (va_Pc [.ref (G.2.2.2 + q0), .int a1, .int a2] (PreC G skR sz σ)) (QO (PoC G skR σ0) (Aw G.2.2.2 skR.1 sz) (some (.int r0))) 0 0 (Aw G.2.2.2 skR.1 sz) := by
  refine mkMet (by decide +kernel) (Nat.le_of_ble_eq_true rfl) skR_ok ?_
  intro p e s m below meth c ls E hW hl hr hlk
  have hl : lv_has ls 5 [(0, .ref (G.2.2.2 + q0)), (1, .int a1), (2, .int a2)] := hl
  generalize Aw G.2.2.2 skR.1 s.heap.size = A0 at E hW ⊢
  generalize ([.ref (G.2.2.2 + q0), .int a1, .int a2] : List Value).toArray = args
  unfold f_X7_sweep at h
  refine lv_aload_n E.1 E.2.1 dX7_sweep_0 rfl (lv_at hl 0 rfl) ?_
  refine lv_iconst (v := (0 : Int32)) E.1 E.2.1 dX7_sweep_1 (by decide) ?_
  obtain ⟨g1, h⟩ := gd_r h
  refine pf_X7_79 E hW g1 dX7_sweep_2 (fun σ2 H locs eσ2 hW => ?_)
  have h := bnd_r eσ2 h
  refine lv_aload_n E.1 E.2.1 dX7_sweep_5 rfl (lv_at hl 0 rfl) ?_
  refine lv_iload_n E.1 E.2.1 dX7_sweep_6 rfl (lv_at hl 1 rfl) ?_
  obtain ⟨x4, σ3, c5, h⟩ := obn_r h
  refine c_V (As := [.int a1]) (rest := []) E hW (m_X7_noModel c5) g1 rfl kw_1204 wv_X7_noModel yo_X7_noModel ⟨rfl, rfl⟩ ⟨(Nat.le_of_ble_eq_true rfl), (Nat.le_of_ble_eq_true rfl)⟩ (lv_size hl) (Nat.le_of_ble_eq_true rfl) ⟨(Nat.le_of_ble_eq_true rfl), (Nat.le_of_ble_eq_true rfl)⟩ rfl dX7_sweep_7 (fun H locs hW => ?_)
  refine W.eq (g2 := F0 m 10 ls [.int x4]) rfl ?_
  refine lv_if_ne (tgt := 37) E.1 E.2.1 dX7_sweep_10 (by decide) (fun g => ?_) (fun g => ?_)
  · have h := ifn h g
    refine lv_iconst (v := (0 : Int32)) E.1 E.2.1 dX7_sweep_37 (by decide) ?_
    exact e_i E hW hr hlk h dX7_sweep_38
  · have h := ifp h g
    refine lv_aload_n E.1 E.2.1 dX7_sweep_13 rfl (lv_at hl 0 rfl) ?_
    refine lv_iload_n E.1 E.2.1 dX7_sweep_14 rfl (lv_at hl 2 rfl) ?_
    refine lv_iconst (v := (0 : Int32)) E.1 E.2.1 dX7_sweep_15 (by decide) ?_
    refine lv_ldcw (v := (100000000 : Int32)) E.1 E.2.1 E.2.2.2.1 (E.wd kw_1286) dX7_sweep_16 ?_
    obtain ⟨x7, σ6, c8, h⟩ := obn_r h
    refine c_S (As := [.int a2, .int (0 : Int32), .int (100000000 : Int32)]) (rest := [.ref (G.2.2.2 + q0)]) E hW (m_X7_in c8) kw_1012 ws_X7_in yo_X7_in ⟨rfl, rfl⟩ ⟨(Nat.le_of_ble_eq_true rfl), (Nat.le_of_ble_eq_true rfl)⟩ (lv_size hl) (Nat.le_of_ble_eq_true rfl) ⟨(Nat.le_of_ble_eq_true rfl), (Nat.le_of_ble_eq_true rfl)⟩ rfl dX7_sweep_19 (fun H locs hW => ?_)
    refine W.eq (g2 := F0 m 22 ls [.int x7, .ref (G.2.2.2 + q0)]) rfl ?_
    obtain ⟨J15, eJ15, h⟩ := bnd_x h
    have hJ15 : ∀ (q10 : Nat) (x11 : Int32) (x12 : Int32) (x13 : Int32) (q14 : Nat) (σ9 : St) (H : Heap) (locs : List Loc) (ls : Array Slot), J15 q10 x11 x12 x13 q14 σ9 = some (r0, σ0) → Wo G skR A0 s σ9 H locs → lv_has ls 5 [(0, .ref (G.2.2.2 + q10)), (1, .int x11), (2, .int x12)] → W p l e ({ frames := 3, cells := 0, slots := 0, locals := 69 } : Room) s m args below meth c H locs 0 0 (MQ below (QO (PoC G skR σ0) A0 (some (.int r0))) args s 0 0 A0) (F0 m 30 ls [.int x13, .ref (G.2.2.2 + q14)]) := by
      intro q10 x11 x12 x13 q14 σ9 H locs ls h hW hl
      have h := jr6 eJ15 h
      refine lv_iconst (v := (3 : Int32)) E.1 E.2.1 dX7_sweep_30 (by decide) ?_
      obtain ⟨g16, h⟩ := gd_r h
      obtain ⟨x18, σ17, c19, h⟩ := obn_r h
      refine c_V (As := [.int x13, .int (3 : Int32)]) (rest := []) E hW (m_X7_fails c19) g16 rfl kw_1015 wv_X7_fails yo_X7_fails ⟨rfl, rfl⟩ ⟨(Nat.le_of_ble_eq_true rfl), (Nat.le_of_ble_eq_true rfl)⟩ (lv_size hl) (Nat.le_of_ble_eq_true rfl) ⟨(Nat.le_of_ble_eq_true rfl), (Nat.le_of_ble_eq_true rfl)⟩ rfl dX7_sweep_31 (fun H locs hW => ?_)
      refine W.eq (g2 := F0 m 34 ls [.int x18]) rfl ?_
      refine lv_if_eq (tgt := 39) E.1 E.2.1 dX7_sweep_34 (by decide) (fun g => ?_) (fun g => ?_)
      · have h := ifp h g
        refine lv_aload_n E.1 E.2.1 dX7_sweep_39 rfl (lv_at hl 0 rfl) ?_
        obtain ⟨g20, h⟩ := gd_r h
        refine gf_X7_17 E hW g20 dX7_sweep_40 ?_
        refine lv_iload_n E.1 E.2.1 dX7_sweep_43 rfl (lv_at hl 1 rfl) ?_
        refine lv_aload_n E.1 E.2.1 dX7_sweep_44 rfl (lv_at hl 0 rfl) ?_
        refine gf_X7_70 E hW g20 dX7_sweep_45 ?_
        obtain ⟨_r, σ21, c22, h⟩ := obn_r h
        refine c_S (As := [.ref (G.2.2.2 + (rR q10 8)), .int x11, .ref (G.2.2.2 + (rR q10 27))]) (rest := []) E hW (m_X7_take c22) kw_1148 ws_X7_take yo_X7_take ⟨rfl, rfl⟩ ⟨(Nat.le_of_ble_eq_true rfl), (Nat.le_of_ble_eq_true rfl)⟩ (lv_size hl) (Nat.le_of_ble_eq_true rfl) ⟨(Nat.le_of_ble_eq_true rfl), (Nat.le_of_ble_eq_true rfl)⟩ rfl dX7_sweep_48 (fun H locs hW => ?_)
        refine W.eq (g2 := F0 m 51 ls []) rfl ?_
        refine lv_iconst (v := (0 : Int32)) E.1 E.2.1 dX7_sweep_51 (by decide) ?_
        refine lv_istore_n (lv' := [(3, .int (0 : Int32)), (0, .ref (G.2.2.2 + q10)), (1, .int x11), (2, .int x12)]) E.1 E.2.1 dX7_sweep_52 rfl hl (by decide) rfl (fun ls hl => ?_)
        refine lv_iconst (v := (1 : Int32)) E.1 E.2.1 dX7_sweep_53 (by decide) ?_
        refine lv_istore (lv' := [(4, .int (1 : Int32)), (3, .int (0 : Int32)), (0, .ref (G.2.2.2 + q10)), (1, .int x11), (2, .int x12)]) E.1 E.2.1 dX7_sweep_54 hl (by decide) rfl (fun ls hl => ?_)
        refine L_X7_sweep_56 E hr hlk ?_ _ _ _ _ _ _ _ _ _ _ h hW (lv_sub hl [2, 3, 4, 1, 0] rfl)
        · intro q30 x31 x32 σ29 H locs ls h hW hl
          refine lv_aload_n E.1 E.2.1 dX7_sweep_184 rfl (lv_at hl 0 rfl) ?_
          refine lv_aload_n E.1 E.2.1 dX7_sweep_185 rfl (lv_at hl 0 rfl) ?_
          obtain ⟨g75, h⟩ := gd_r h
          refine gf_X7_70 E hW g75 dX7_sweep_186 ?_
          obtain ⟨x77, σ76, c78, h⟩ := obn_r h
          refine c_S (As := [.ref (G.2.2.2 + (rR q30 27))]) (rest := [.ref (G.2.2.2 + q30)]) E hW (m_X7_isSmall c78) kw_1131 ws_X7_isSmall yo_X7_isSmall ⟨rfl, rfl⟩ ⟨(Nat.le_of_ble_eq_true rfl), (Nat.le_of_ble_eq_true rfl)⟩ (lv_size hl) (Nat.le_of_ble_eq_true rfl) ⟨(Nat.le_of_ble_eq_true rfl), (Nat.le_of_ble_eq_true rfl)⟩ rfl dX7_sweep_189 (fun H locs hW => ?_)
          refine W.eq (g2 := F0 m 192 ls [.int x77, .ref (G.2.2.2 + q30)]) rfl ?_
          obtain ⟨J85, eJ85, h⟩ := bnd_x h
          have hJ85 : ∀ (q80 : Nat) (x81 : Int32) (x82 : Int32) (x83 : Int32) (q84 : Nat) (σ79 : St) (H : Heap) (locs : List Loc) (ls : Array Slot), J85 q80 x81 x82 x83 q84 σ79 = some (r0, σ0) → Wo G skR A0 s σ79 H locs → lv_has ls 5 [(0, .ref (G.2.2.2 + q80)), (1, .int x81), (3, .int x82)] → W p l e ({ frames := 3, cells := 0, slots := 0, locals := 69 } : Room) s m args below meth c H locs 0 0 (MQ below (QO (PoC G skR σ0) A0 (some (.int r0))) args s 0 0 A0) (F0 m 200 ls [.int x83, .ref (G.2.2.2 + q84)]) := by
            intro q80 x81 x82 x83 q84 σ79 H locs ls h hW hl
            have h := jr6 eJ85 h
            refine lv_iconst (v := (4 : Int32)) E.1 E.2.1 dX7_sweep_200 (by decide) ?_
            obtain ⟨g86, h⟩ := gd_r h
            obtain ⟨x88, σ87, c89, h⟩ := obn_r h
            refine c_V (As := [.int x83, .int (4 : Int32)]) (rest := []) E hW (m_X7_fails c89) g86 rfl kw_1015 wv_X7_fails yo_X7_fails ⟨rfl, rfl⟩ ⟨(Nat.le_of_ble_eq_true rfl), (Nat.le_of_ble_eq_true rfl)⟩ (lv_size hl) (Nat.le_of_ble_eq_true rfl) ⟨(Nat.le_of_ble_eq_true rfl), (Nat.le_of_ble_eq_true rfl)⟩ rfl dX7_sweep_201 (fun H locs hW => ?_)
            refine W.eq (g2 := F0 m 204 ls [.int x88]) rfl ?_
            refine lv_if_eq (tgt := 209) E.1 E.2.1 dX7_sweep_204 (by decide) (fun g => ?_) (fun g => ?_)
            · have h := ifp h g
              refine lv_aload_n E.1 E.2.1 dX7_sweep_209 rfl (lv_at hl 0 rfl) ?_
              refine lv_iload_n E.1 E.2.1 dX7_sweep_210 rfl (lv_at hl 1 rfl) ?_
              obtain ⟨g90, h⟩ := gd_r h
              obtain ⟨x92, σ91, c93, h⟩ := obn_r h
              refine c_V (As := [.int x81]) (rest := []) E hW (m_X7_becomes c93) g90 rfl kw_1254 wv_X7_becomes yo_X7_becomes ⟨rfl, rfl⟩ ⟨(Nat.le_of_ble_eq_true rfl), (Nat.le_of_ble_eq_true rfl)⟩ (lv_size hl) (Nat.le_of_ble_eq_true rfl) ⟨(Nat.le_of_ble_eq_true rfl), (Nat.le_of_ble_eq_true rfl)⟩ rfl dX7_sweep_211 (fun H locs hW => ?_)
              refine W.eq (g2 := F0 m 214 ls [.int x92]) rfl ?_
              refine lv_istore (lv' := [(4, .int x92), (0, .ref (G.2.2.2 + q80)), (1, .int x81), (3, .int x82)]) E.1 E.2.1 dX7_sweep_214 hl (by decide) rfl (fun ls hl => ?_)
              refine lv_iload_n E.1 E.2.1 dX7_sweep_216 rfl (lv_at hl 3 rfl) ?_
              exact e_i E hW hr hlk h dX7_sweep_217
            · have h := ifn h g
              refine lv_iconst (v := (0 : Int32)) E.1 E.2.1 dX7_sweep_207 (by decide) ?_
              exact e_i E hW hr hlk h dX7_sweep_208
          refine lv_if_ne (tgt := 199) E.1 E.2.1 dX7_sweep_192 (by decide) (fun g => ?_) (fun g => ?_)
          · have h := ifn h g
            refine lv_iconst (v := (0 : Int32)) E.1 E.2.1 dX7_sweep_199 (by decide) ?_
            exact hJ85 _ _ _ _ _ _ _ _ _ h hW (lv_sub hl [0, 1, 2] rfl)
          · have h := ifp h g
            refine lv_iconst (v := (1 : Int32)) E.1 E.2.1 dX7_sweep_195 (by decide) ?_
            refine lv_goto (tgt := 200) E.1 E.2.1 dX7_sweep_196 (by decide) ?_
            exact hJ85 _ _ _ _ _ _ _ _ _ h hW (lv_sub hl [0, 1, 2] rfl)
      · have h := ifn h g
        refine lv_iconst (v := (0 : Int32)) E.1 E.2.1 dX7_sweep_37 (by decide) ?_
        exact e_i E hW hr hlk h dX7_sweep_38
    refine lv_if_ne (tgt := 29) E.1 E.2.1 dX7_sweep_22 (by decide) (fun g => ?_) (fun g => ?_)
    · have h := ifn h g
      refine lv_iconst (v := (0 : Int32)) E.1 E.2.1 dX7_sweep_29 (by decide) ?_
      exact hJ15 _ _ _ _ _ _ _ _ _ h hW (lv_sub hl [0, 1, 2] rfl)
    · have h := ifp h g
      refine lv_iconst (v := (1 : Int32)) E.1 E.2.1 dX7_sweep_25 (by decide) ?_
      refine lv_goto (tgt := 30) E.1 E.2.1 dX7_sweep_26 (by decide) ?_
      exact hJ15 _ _ _ _ _ _ _ _ _ h hW (lv_sub hl [0, 1, 2] rfl)
set_option maxHeartbeats 4000000 in
set_option maxRecDepth 100000 in
theorem m_X7_wrap {l : Launch} {G : GP} {sz : Nat} {q0 : Nat} {a1 : Int32} {a2 : Int32} {σ σ0 : St} {r0 : Int32} (h : f_X7_wrap q0 a1 a2 σ = some (r0, σ0)) : Met l yX7_wrap [.code yX7_wrap cX7_wrap 10 (some .int)] ({ frames := 4, cells := 0, slots := 0, locals := 92 } : Room) (va_Pc [.ref (G.2.2.2 + q0), .int a1, .int a2] (PreC G skR sz σ)) (QO (PoC G skR σ0) (Aw G.2.2.2 skR.1 sz) (some (.int r0))) 0 0 (Aw G.2.2.2 skR.1 sz) := by
  refine mkMet (by decide +kernel) (Nat.le_of_ble_eq_true rfl) skR_ok ?_
  intro p e s m below meth c ls E hW hl hr hlk
  have hl : lv_has ls 10 [(0, .ref (G.2.2.2 + q0)), (1, .int a1), (2, .int a2)] := hl
  generalize Aw G.2.2.2 skR.1 s.heap.size = A0 at E hW ⊢
  generalize ([.ref (G.2.2.2 + q0), .int a1, .int a2] : List Value).toArray = args
  unfold f_X7_wrap at h
  refine lv_aload_n E.1 E.2.1 dX7_wrap_0 rfl (lv_at hl 0 rfl) ?_
  refine lv_iconst (v := (0 : Int32)) E.1 E.2.1 dX7_wrap_1 (by decide) ?_
  obtain ⟨g1, h⟩ := gd_r h
  refine pf_X7_79 E hW g1 dX7_wrap_2 (fun σ2 H locs eσ2 hW => ?_)
  have h := bnd_r eσ2 h
  refine lv_aload_n E.1 E.2.1 dX7_wrap_5 rfl (lv_at hl 0 rfl) ?_
  refine lv_iload_n E.1 E.2.1 dX7_wrap_6 rfl (lv_at hl 1 rfl) ?_
  obtain ⟨x4, σ3, c5, h⟩ := obn_r h
  refine c_V (As := [.int a1]) (rest := []) E hW (m_X7_noModel c5) g1 rfl kw_1204 wv_X7_noModel yo_X7_noModel ⟨rfl, rfl⟩ ⟨(Nat.le_of_ble_eq_true rfl), (Nat.le_of_ble_eq_true rfl)⟩ (lv_size hl) (Nat.le_of_ble_eq_true rfl) ⟨(Nat.le_of_ble_eq_true rfl), (Nat.le_of_ble_eq_true rfl)⟩ rfl dX7_wrap_7 (fun H locs hW => ?_)
  refine W.eq (g2 := F0 m 10 ls [.int x4]) rfl ?_
  refine lv_if_ne (tgt := 35) E.1 E.2.1 dX7_wrap_10 (by decide) (fun g => ?_) (fun g => ?_)
  · have h := ifn h g
    refine lv_iconst (v := (0 : Int32)) E.1 E.2.1 dX7_wrap_35 (by decide) ?_
    exact e_i E hW hr hlk h dX7_wrap_36
  · have h := ifp h g
    refine lv_aload_n E.1 E.2.1 dX7_wrap_13 rfl (lv_at hl 0 rfl) ?_
    refine lv_iload_n E.1 E.2.1 dX7_wrap_14 rfl (lv_at hl 2 rfl) ?_
    refine lv_iconst (v := (0 : Int32)) E.1 E.2.1 dX7_wrap_15 (by decide) ?_
    refine lv_iconst (v := (1 : Int32)) E.1 E.2.1 dX7_wrap_16 (by decide) ?_
    obtain ⟨x7, σ6, c8, h⟩ := obn_r h
    refine c_S (As := [.int a2, .int (0 : Int32), .int (1 : Int32)]) (rest := [.ref (G.2.2.2 + q0)]) E hW (m_X7_in c8) kw_1012 ws_X7_in yo_X7_in ⟨rfl, rfl⟩ ⟨(Nat.le_of_ble_eq_true rfl), (Nat.le_of_ble_eq_true rfl)⟩ (lv_size hl) (Nat.le_of_ble_eq_true rfl) ⟨(Nat.le_of_ble_eq_true rfl), (Nat.le_of_ble_eq_true rfl)⟩ rfl dX7_wrap_17 (fun H locs hW => ?_)
    refine W.eq (g2 := F0 m 20 ls [.int x7, .ref (G.2.2.2 + q0)]) rfl ?_
    obtain ⟨J15, eJ15, h⟩ := bnd_x h
    have hJ15 : ∀ (q10 : Nat) (x11 : Int32) (x12 : Int32) (x13 : Int32) (q14 : Nat) (σ9 : St) (H : Heap) (locs : List Loc) (ls : Array Slot), J15 q10 x11 x12 x13 q14 σ9 = some (r0, σ0) → Wo G skR A0 s σ9 H locs → lv_has ls 10 [(0, .ref (G.2.2.2 + q10)), (1, .int x11), (2, .int x12)] → W p l e ({ frames := 4, cells := 0, slots := 0, locals := 92 } : Room) s m args below meth c H locs 0 0 (MQ below (QO (PoC G skR σ0) A0 (some (.int r0))) args s 0 0 A0) (F0 m 28 ls [.int x13, .ref (G.2.2.2 + q14)]) := by
      intro q10 x11 x12 x13 q14 σ9 H locs ls h hW hl
      have h := jr6 eJ15 h
      refine lv_iconst (v := (3 : Int32)) E.1 E.2.1 dX7_wrap_28 (by decide) ?_
      obtain ⟨g16, h⟩ := gd_r h
      obtain ⟨x18, σ17, c19, h⟩ := obn_r h
      refine c_V (As := [.int x13, .int (3 : Int32)]) (rest := []) E hW (m_X7_fails c19) g16 rfl kw_1015 wv_X7_fails yo_X7_fails ⟨rfl, rfl⟩ ⟨(Nat.le_of_ble_eq_true rfl), (Nat.le_of_ble_eq_true rfl)⟩ (lv_size hl) (Nat.le_of_ble_eq_true rfl) ⟨(Nat.le_of_ble_eq_true rfl), (Nat.le_of_ble_eq_true rfl)⟩ rfl dX7_wrap_29 (fun H locs hW => ?_)
      refine W.eq (g2 := F0 m 32 ls [.int x18]) rfl ?_
      refine lv_if_eq (tgt := 37) E.1 E.2.1 dX7_wrap_32 (by decide) (fun g => ?_) (fun g => ?_)
      · have h := ifp h g
        refine lv_aload_n E.1 E.2.1 dX7_wrap_37 rfl (lv_at hl 0 rfl) ?_
        obtain ⟨g20, h⟩ := gd_r h
        refine gf_X7_17 E hW g20 dX7_wrap_38 ?_
        refine lv_iload_n E.1 E.2.1 dX7_wrap_41 rfl (lv_at hl 1 rfl) ?_
        refine lv_aload_n E.1 E.2.1 dX7_wrap_42 rfl (lv_at hl 0 rfl) ?_
        refine gf_X7_61 E hW g20 dX7_wrap_43 ?_
        obtain ⟨_r, σ21, c22, h⟩ := obn_r h
        refine c_S (As := [.ref (G.2.2.2 + (rR q10 8)), .int x11, .ref (G.2.2.2 + (rR q10 24))]) (rest := []) E hW (m_X7_take c22) kw_1148 ws_X7_take yo_X7_take ⟨rfl, rfl⟩ ⟨(Nat.le_of_ble_eq_true rfl), (Nat.le_of_ble_eq_true rfl)⟩ (lv_size hl) (Nat.le_of_ble_eq_true rfl) ⟨(Nat.le_of_ble_eq_true rfl), (Nat.le_of_ble_eq_true rfl)⟩ rfl dX7_wrap_46 (fun H locs hW => ?_)
        refine W.eq (g2 := F0 m 49 ls []) rfl ?_
        refine lv_aload_n E.1 E.2.1 dX7_wrap_49 rfl (lv_at hl 0 rfl) ?_
        refine gf_X7_61 E hW g20 dX7_wrap_50 ?_
        obtain ⟨x24, σ23, c25, h⟩ := obn_r h
        refine c_S (As := [.ref (G.2.2.2 + (rR q10 24))]) (rest := []) E hW (m_X7_spreadLow c25) kw_1158 ws_X7_spreadLow yo_X7_spreadLow ⟨rfl, rfl⟩ ⟨(Nat.le_of_ble_eq_true rfl), (Nat.le_of_ble_eq_true rfl)⟩ (lv_size hl) (Nat.le_of_ble_eq_true rfl) ⟨(Nat.le_of_ble_eq_true rfl), (Nat.le_of_ble_eq_true rfl)⟩ rfl dX7_wrap_53 (fun H locs hW => ?_)
        refine W.eq (g2 := F0 m 56 ls [.long x24]) rfl ?_
        refine lv_aload_n E.1 E.2.1 dX7_wrap_56 rfl (lv_at hl 0 rfl) ?_
        refine gf_X7_61 E hW g20 dX7_wrap_57 ?_
        refine lv_bipush (v := (10 : Int32)) E.1 E.2.1 dX7_wrap_60 (by decide) ?_
        obtain ⟨g26, h⟩ := gd_r h
        refine r_lald E hW (pr_eq g26.1) g26.2 dX7_wrap_62 ?_
        refine lv_ladd E.1 E.2.1 dX7_wrap_63 ?_
        refine lv_topl (fun x27 ex27 => ?_)
        have h := bnd_r ex27 h
        refine lv_lstore_n (lv' := [(3, .long x27), (0, .ref (G.2.2.2 + q10)), (1, .int x11), (2, .int x12)]) E.1 E.2.1 dX7_wrap_64 rfl hl (by decide) rfl (fun ls hl => ?_)
        refine lv_aload_n E.1 E.2.1 dX7_wrap_65 rfl (lv_at hl 1 rfl) ?_
        refine gf_X7_61 E hW g20 dX7_wrap_66 ?_
        obtain ⟨x29, σ28, c30, h⟩ := obn_r h
        refine c_S (As := [.ref (G.2.2.2 + (rR q10 24))]) (rest := []) E hW (m_X7_spreadHigh c30) kw_1162 ws_X7_spreadHigh yo_X7_spreadHigh ⟨rfl, rfl⟩ ⟨(Nat.le_of_ble_eq_true rfl), (Nat.le_of_ble_eq_true rfl)⟩ (lv_size hl) (Nat.le_of_ble_eq_true rfl) ⟨(Nat.le_of_ble_eq_true rfl), (Nat.le_of_ble_eq_true rfl)⟩ rfl dX7_wrap_69 (fun H locs hW => ?_)
        refine W.eq (g2 := F0 m 72 ls [.long x29]) rfl ?_
        refine lv_aload_n E.1 E.2.1 dX7_wrap_72 rfl (lv_at hl 1 rfl) ?_
        refine gf_X7_61 E hW g20 dX7_wrap_73 ?_
        refine lv_bipush (v := (11 : Int32)) E.1 E.2.1 dX7_wrap_76 (by decide) ?_
        obtain ⟨g31, h⟩ := gd_r h
        refine r_lald E hW (pr_eq g31.1) g31.2 dX7_wrap_78 ?_
        refine lv_ladd E.1 E.2.1 dX7_wrap_79 ?_
        refine lv_topl (fun x32 ex32 => ?_)
        have h := bnd_r ex32 h
        refine lv_lstore (lv' := [(5, .long x32), (3, .long x27), (0, .ref (G.2.2.2 + q10)), (1, .int x11), (2, .int x12)]) E.1 E.2.1 dX7_wrap_80 hl (by decide) rfl (fun ls hl => ?_)
        refine lv_lload_n E.1 E.2.1 dX7_wrap_82 rfl (lv_at hl 1 rfl) ?_
        refine lv_lload E.1 E.2.1 dX7_wrap_83 (lv_at hl 0 rfl) ?_
        refine lv_ladd E.1 E.2.1 dX7_wrap_85 ?_
        refine lv_ldc2 (v := (2 : Int64)) E.1 E.2.1 E.2.2.2.1 (E.wd kw_1291) dX7_wrap_86 ?_
        obtain ⟨x34, σ33, c35, h⟩ := obn_r h
        refine c_S (As := [.long (x27 + x32), .long (2 : Int64)]) (rest := []) E hW (m_X7_down c35) kw_1119 ws_X7_down yo_X7_down ⟨rfl, rfl⟩ ⟨(Nat.le_of_ble_eq_true rfl), (Nat.le_of_ble_eq_true rfl)⟩ (lv_size hl) (Nat.le_of_ble_eq_true rfl) ⟨(Nat.le_of_ble_eq_true rfl), (Nat.le_of_ble_eq_true rfl)⟩ rfl dX7_wrap_89 (fun H locs hW => ?_)
        refine W.eq (g2 := F0 m 92 ls [.long x34]) rfl ?_
        refine lv_lstore (lv' := [(7, .long x34), (5, .long x32), (3, .long x27), (0, .ref (G.2.2.2 + q10)), (1, .int x11), (2, .int x12)]) E.1 E.2.1 dX7_wrap_92 hl (by decide) rfl (fun ls hl => ?_)
        refine lv_aload_n E.1 E.2.1 dX7_wrap_94 rfl (lv_at hl 3 rfl) ?_
        refine gf_X7_70 E hW g20 dX7_wrap_95 ?_
        obtain ⟨_r, σ36, c37, h⟩ := obn_r h
        refine c_S (As := [.ref (G.2.2.2 + (rR q10 27))]) (rest := []) E hW (m_X7_clearRow c37) kw_1066 ws_X7_clearRow yo_X7_clearRow ⟨rfl, rfl⟩ ⟨(Nat.le_of_ble_eq_true rfl), (Nat.le_of_ble_eq_true rfl)⟩ (lv_size hl) (Nat.le_of_ble_eq_true rfl) ⟨(Nat.le_of_ble_eq_true rfl), (Nat.le_of_ble_eq_true rfl)⟩ rfl dX7_wrap_98 (fun H locs hW => ?_)
        refine W.eq (g2 := F0 m 101 ls []) rfl ?_
        refine lv_aload_n E.1 E.2.1 dX7_wrap_101 rfl (lv_at hl 3 rfl) ?_
        refine gf_X7_70 E hW g20 dX7_wrap_102 ?_
        refine lv_iconst (v := (0 : Int32)) E.1 E.2.1 dX7_wrap_105 (by decide) ?_
        refine lv_lload E.1 E.2.1 dX7_wrap_106 (lv_at hl 0 rfl) ?_
        obtain ⟨g38, h⟩ := gd_r h
        refine r_last E hW (pr_eq g38.1) g38.2 dX7_wrap_108 (fun σ39 H locs eσ39 hW => ?_)
        have h := bnd_r eσ39 h
        refine lv_aload_n E.1 E.2.1 dX7_wrap_109 rfl (lv_at hl 3 rfl) ?_
        refine gf_X7_70 E hW g20 dX7_wrap_110 ?_
        refine lv_iload_n E.1 E.2.1 dX7_wrap_113 rfl (lv_at hl 5 rfl) ?_
        obtain ⟨J47, eJ47, h⟩ := bnd_x h
        have hJ47 : ∀ (q41 : Nat) (x42 : Int32) (x43 : Int64) (x44 : Int64) (x45 : Int32) (q46 : Nat) (σ40 : St) (H : Heap) (locs : List Loc) (ls : Array Slot), J47 q41 x42 x43 x44 x45 q46 σ40 = some (r0, σ0) → Wo G skR A0 s σ40 H locs → lv_has ls 10 [(0, .ref (G.2.2.2 + q41)), (1, .int x42), (5, .long x43), (7, .long x44)] → W p l e ({ frames := 4, cells := 0, slots := 0, locals := 92 } : Room) s m args below meth c H locs 0 0 (MQ below (QO (PoC G skR σ0) A0 (some (.int r0))) args s 0 0 A0) (F0 m 130 ls [.int x45, .ref (G.2.2.2 + q46)]) := by
          intro q41 x42 x43 x44 x45 q46 σ40 H locs ls h hW hl
          have h := jr7 eJ47 h
          refine lv_lload E.1 E.2.1 dX7_wrap_130 (lv_at hl 2 rfl) ?_
          refine lv_lload E.1 E.2.1 dX7_wrap_132 (lv_at hl 3 rfl) ?_
          refine lv_lsub E.1 E.2.1 dX7_wrap_134 ?_
          obtain ⟨g48, h⟩ := gd_r h
          refine r_last E hW (pr_eq g48.1) g48.2 dX7_wrap_135 (fun σ49 H locs eσ49 hW => ?_)
          have h := bnd_r eσ49 h
          refine lv_aload_n E.1 E.2.1 dX7_wrap_136 rfl (lv_at hl 0 rfl) ?_
          refine lv_aload_n E.1 E.2.1 dX7_wrap_137 rfl (lv_at hl 0 rfl) ?_
          obtain ⟨g50, h⟩ := gd_r h
          refine gf_X7_70 E hW g50 dX7_wrap_138 ?_
          obtain ⟨x52, σ51, c53, h⟩ := obn_r h
          refine c_S (As := [.ref (G.2.2.2 + (rR q41 27))]) (rest := [.ref (G.2.2.2 + q41)]) E hW (m_X7_isSmall c53) kw_1131 ws_X7_isSmall yo_X7_isSmall ⟨rfl, rfl⟩ ⟨(Nat.le_of_ble_eq_true rfl), (Nat.le_of_ble_eq_true rfl)⟩ (lv_size hl) (Nat.le_of_ble_eq_true rfl) ⟨(Nat.le_of_ble_eq_true rfl), (Nat.le_of_ble_eq_true rfl)⟩ rfl dX7_wrap_141 (fun H locs hW => ?_)
          refine W.eq (g2 := F0 m 144 ls [.int x52, .ref (G.2.2.2 + q41)]) rfl ?_
          obtain ⟨J61, eJ61, h⟩ := bnd_x h
          have hJ61 : ∀ (q55 : Nat) (x56 : Int32) (x57 : Int64) (x58 : Int64) (x59 : Int32) (q60 : Nat) (σ54 : St) (H : Heap) (locs : List Loc) (ls : Array Slot), J61 q55 x56 x57 x58 x59 q60 σ54 = some (r0, σ0) → Wo G skR A0 s σ54 H locs → lv_has ls 10 [(0, .ref (G.2.2.2 + q55)), (1, .int x56), (5, .long x57), (7, .long x58)] → W p l e ({ frames := 4, cells := 0, slots := 0, locals := 92 } : Room) s m args below meth c H locs 0 0 (MQ below (QO (PoC G skR σ0) A0 (some (.int r0))) args s 0 0 A0) (F0 m 152 ls [.int x59, .ref (G.2.2.2 + q60)]) := by
            intro q55 x56 x57 x58 x59 q60 σ54 H locs ls h hW hl
            have h := jr7 eJ61 h
            refine lv_iconst (v := (4 : Int32)) E.1 E.2.1 dX7_wrap_152 (by decide) ?_
            obtain ⟨g62, h⟩ := gd_r h
            obtain ⟨x64, σ63, c65, h⟩ := obn_r h
            refine c_V (As := [.int x59, .int (4 : Int32)]) (rest := []) E hW (m_X7_fails c65) g62 rfl kw_1015 wv_X7_fails yo_X7_fails ⟨rfl, rfl⟩ ⟨(Nat.le_of_ble_eq_true rfl), (Nat.le_of_ble_eq_true rfl)⟩ (lv_size hl) (Nat.le_of_ble_eq_true rfl) ⟨(Nat.le_of_ble_eq_true rfl), (Nat.le_of_ble_eq_true rfl)⟩ rfl dX7_wrap_153 (fun H locs hW => ?_)
            refine W.eq (g2 := F0 m 156 ls [.int x64]) rfl ?_
            refine lv_if_eq (tgt := 161) E.1 E.2.1 dX7_wrap_156 (by decide) (fun g => ?_) (fun g => ?_)
            · have h := ifp h g
              refine lv_aload_n E.1 E.2.1 dX7_wrap_161 rfl (lv_at hl 0 rfl) ?_
              refine lv_iload_n E.1 E.2.1 dX7_wrap_162 rfl (lv_at hl 1 rfl) ?_
              obtain ⟨g66, h⟩ := gd_r h
              obtain ⟨x68, σ67, c69, h⟩ := obn_r h
              refine c_V (As := [.int x56]) (rest := []) E hW (m_X7_becomes c69) g66 rfl kw_1254 wv_X7_becomes yo_X7_becomes ⟨rfl, rfl⟩ ⟨(Nat.le_of_ble_eq_true rfl), (Nat.le_of_ble_eq_true rfl)⟩ (lv_size hl) (Nat.le_of_ble_eq_true rfl) ⟨(Nat.le_of_ble_eq_true rfl), (Nat.le_of_ble_eq_true rfl)⟩ rfl dX7_wrap_163 (fun H locs hW => ?_)
              refine W.eq (g2 := F0 m 166 ls [.int x68]) rfl ?_
              refine lv_istore (lv' := [(9, .int x68), (0, .ref (G.2.2.2 + q55)), (1, .int x56), (5, .long x57), (7, .long x58)]) E.1 E.2.1 dX7_wrap_166 hl (by decide) rfl (fun ls hl => ?_)
              refine lv_lload E.1 E.2.1 dX7_wrap_168 (lv_at hl 3 rfl) ?_
              refine lv_lload E.1 E.2.1 dX7_wrap_170 (lv_at hl 4 rfl) ?_
              refine lv_lsub E.1 E.2.1 dX7_wrap_172 ?_
              refine lv_l2i E.1 E.2.1 dX7_wrap_173 rfl ?_
              exact e_i E hW hr hlk h dX7_wrap_174
            · have h := ifn h g
              refine lv_iconst (v := (0 : Int32)) E.1 E.2.1 dX7_wrap_159 (by decide) ?_
              exact e_i E hW hr hlk h dX7_wrap_160
          refine lv_if_ne (tgt := 151) E.1 E.2.1 dX7_wrap_144 (by decide) (fun g => ?_) (fun g => ?_)
          · have h := ifn h g
            refine lv_iconst (v := (0 : Int32)) E.1 E.2.1 dX7_wrap_151 (by decide) ?_
            exact hJ61 _ _ _ _ _ _ _ _ _ _ h hW (lv_sub hl [0, 1, 2, 3] rfl)
          · have h := ifp h g
            refine lv_iconst (v := (1 : Int32)) E.1 E.2.1 dX7_wrap_147 (by decide) ?_
            refine lv_goto (tgt := 152) E.1 E.2.1 dX7_wrap_148 (by decide) ?_
            exact hJ61 _ _ _ _ _ _ _ _ _ _ h hW (lv_sub hl [0, 1, 2, 3] rfl)
        refine lv_if_ne (tgt := 125) E.1 E.2.1 dX7_wrap_114 (by decide) (fun g => ?_) (fun g => ?_)
        · have h := ifn h g
          refine lv_iconst (v := (0 : Int32)) E.1 E.2.1 dX7_wrap_125 (by decide) ?_
          refine lv_iconst (v := (1 : Int32)) E.1 E.2.1 dX7_wrap_126 (by decide) ?_
          obtain ⟨x71, σ70, c72, h⟩ := obn_r h
          refine c_S (As := [.int (0 : Int32), .int (1 : Int32)]) (rest := [.ref (G.2.2.2 + (rR q10 27))]) E hW (m_X7_place c72) kw_1093 ws_X7_place yo_X7_place ⟨rfl, rfl⟩ ⟨(Nat.le_of_ble_eq_true rfl), (Nat.le_of_ble_eq_true rfl)⟩ (lv_size hl) (Nat.le_of_ble_eq_true rfl) ⟨(Nat.le_of_ble_eq_true rfl), (Nat.le_of_ble_eq_true rfl)⟩ rfl dX7_wrap_127 (fun H locs hW => ?_)
          refine W.eq (g2 := F0 m 130 ls [.int x71, .ref (G.2.2.2 + (rR q10 27))]) rfl ?_
          exact hJ47 _ _ _ _ _ _ _ _ _ _ h hW (lv_sub hl [3, 4, 1, 0] rfl)
        · have h := ifp h g
          refine lv_iconst (v := (1 : Int32)) E.1 E.2.1 dX7_wrap_117 (by decide) ?_
          refine lv_iconst (v := (0 : Int32)) E.1 E.2.1 dX7_wrap_118 (by decide) ?_
          obtain ⟨x74, σ73, c75, h⟩ := obn_r h
          refine c_S (As := [.int (1 : Int32), .int (0 : Int32)]) (rest := [.ref (G.2.2.2 + (rR q10 27))]) E hW (m_X7_place c75) kw_1093 ws_X7_place yo_X7_place ⟨rfl, rfl⟩ ⟨(Nat.le_of_ble_eq_true rfl), (Nat.le_of_ble_eq_true rfl)⟩ (lv_size hl) (Nat.le_of_ble_eq_true rfl) ⟨(Nat.le_of_ble_eq_true rfl), (Nat.le_of_ble_eq_true rfl)⟩ rfl dX7_wrap_119 (fun H locs hW => ?_)
          refine W.eq (g2 := F0 m 122 ls [.int x74, .ref (G.2.2.2 + (rR q10 27))]) rfl ?_
          refine lv_goto (tgt := 130) E.1 E.2.1 dX7_wrap_122 (by decide) ?_
          exact hJ47 _ _ _ _ _ _ _ _ _ _ h hW (lv_sub hl [3, 4, 1, 0] rfl)
      · have h := ifn h g
        refine lv_iconst (v := (0 : Int32)) E.1 E.2.1 dX7_wrap_35 (by decide) ?_
        exact e_i E hW hr hlk h dX7_wrap_36
    refine lv_if_ne (tgt := 27) E.1 E.2.1 dX7_wrap_20 (by decide) (fun g => ?_) (fun g => ?_)
    · have h := ifn h g
      refine lv_iconst (v := (0 : Int32)) E.1 E.2.1 dX7_wrap_27 (by decide) ?_
      exact hJ15 _ _ _ _ _ _ _ _ _ h hW (lv_sub hl [0, 1, 2] rfl)
    · have h := ifp h g
      refine lv_iconst (v := (1 : Int32)) E.1 E.2.1 dX7_wrap_23 (by decide) ?_
      refine lv_goto (tgt := 28) E.1 E.2.1 dX7_wrap_24 (by decide) ?_
      exact hJ15 _ _ _ _ _ _ _ _ _ h hW (lv_sub hl [0, 1, 2] rfl)
set_option maxHeartbeats 4000000 in
set_option maxRecDepth 100000 in
theorem m_X7_isValue {l : Launch} {G : GP} {sz : Nat} {a0 : Int32} {σ σ0 : St} {r0 : Int32} (h : f_X7_isValue a0 σ = some (r0, σ0)) : Met l yX7_isValue [.code yX7_isValue cX7_isValue 1 (some .boolean)] ({ frames := 0, cells := 0, slots := 0, locals := 0 } : Room) (va_Pc [.int a0] (PreC G skR sz σ)) (QO (PoC G skR σ0) (Aw G.2.2.2 skR.1 sz) (some (.int r0))) 0 0 (Aw G.2.2.2 skR.1 sz) := by
  refine mkMet (by decide +kernel) (Nat.le_of_ble_eq_true rfl) skR_ok ?_
  intro p e s m below meth c ls E hW hl hr hlk
  have hl : lv_has ls 1 [(0, .int a0)] := hl
  generalize Aw G.2.2.2 skR.1 s.heap.size = A0 at E hW ⊢
  generalize ([.int a0] : List Value).toArray = args
  unfold f_X7_isValue at h
  refine lv_iload_n E.1 E.2.1 dX7_isValue_0 rfl (lv_at hl 0 rfl) ?_
  refine lv_i2l E.1 E.2.1 dX7_isValue_1 rfl ?_
  refine lv_ldc2 (v := (-100000000 : Int64)) E.1 E.2.1 E.2.2.2.1 (E.wd kw_1134) dX7_isValue_2 ?_
  refine r_lc_lt E dX7_isValue_5 dX7_isValue_6 (tgt := 22) (by decide) (fun g => ?_) (fun g => ?_)
  · have h := ifp h g
    refine lv_iconst (v := (0 : Int32)) E.1 E.2.1 dX7_isValue_22 (by decide) ?_
    exact e_z E hW hr hlk (by decide) h dX7_isValue_23
  · have h := ifn h g
    refine lv_iload_n E.1 E.2.1 dX7_isValue_9 rfl (lv_at hl 0 rfl) ?_
    refine lv_i2l E.1 E.2.1 dX7_isValue_10 rfl ?_
    refine lv_ldc2 (v := (100000000 : Int64)) E.1 E.2.1 E.2.2.2.1 (E.wd kw_1135) dX7_isValue_11 ?_
    refine r_lc_gt E dX7_isValue_14 dX7_isValue_15 (tgt := 22) (by decide) (fun g => ?_) (fun g => ?_)
    · have h := ifp h g
      refine lv_iconst (v := (0 : Int32)) E.1 E.2.1 dX7_isValue_22 (by decide) ?_
      exact e_z E hW hr hlk (by decide) h dX7_isValue_23
    · have h := ifn h g
      refine lv_iconst (v := (1 : Int32)) E.1 E.2.1 dX7_isValue_18 (by decide) ?_
      refine lv_goto (tgt := 23) E.1 E.2.1 dX7_isValue_19 (by decide) ?_
      exact e_z E hW hr hlk (by decide) h dX7_isValue_23
set_option maxHeartbeats 4000000 in
set_option maxRecDepth 100000 in
theorem m_X7_setCoefficient {l : Launch} {G : GP} {sz : Nat} {q0 : Nat} {a1 : Int32} {a2 : Int32} {a3 : Int32} {a4 : Int32} {σ σ0 : St} {r0 : Int32} (h : f_X7_setCoefficient q0 a1 a2 a3 a4 σ = some (r0, σ0)) : Met l yX7_setCoefficient [.code yX7_setCoefficient cX7_setCoefficient 7 (some .int)] ({ frames := 3, cells := 0, slots := 0, locals := 64 } : Room) (va_Pc [.ref (G.2.2.2 + q0), .int a1, .int a2, .int a3, .int a4] (PreC G skR sz σ)) (QO (PoC G skR σ0) (Aw G.2.2.2 skR.1 sz) (some (.int r0))) 0 0 (Aw G.2.2.2 skR.1 sz) := by
  refine mkMet (by decide +kernel) (Nat.le_of_ble_eq_true rfl) skR_ok ?_
  intro p e s m below meth c ls E hW hl hr hlk
  have hl : lv_has ls 7 [(0, .ref (G.2.2.2 + q0)), (1, .int a1), (2, .int a2), (3, .int a3), (4, .int a4)] := hl
  generalize Aw G.2.2.2 skR.1 s.heap.size = A0 at E hW ⊢
  generalize ([.ref (G.2.2.2 + q0), .int a1, .int a2, .int a3, .int a4] : List Value).toArray = args
  unfold f_X7_setCoefficient at h
  refine lv_aload_n E.1 E.2.1 dX7_setCoefficient_0 rfl (lv_at hl 0 rfl) ?_
  refine lv_iconst (v := (0 : Int32)) E.1 E.2.1 dX7_setCoefficient_1 (by decide) ?_
  obtain ⟨g1, h⟩ := gd_r h
  refine pf_X7_79 E hW g1 dX7_setCoefficient_2 (fun σ2 H locs eσ2 hW => ?_)
  have h := bnd_r eσ2 h
  refine lv_aload_n E.1 E.2.1 dX7_setCoefficient_5 rfl (lv_at hl 0 rfl) ?_
  refine lv_iload_n E.1 E.2.1 dX7_setCoefficient_6 rfl (lv_at hl 1 rfl) ?_
  obtain ⟨x4, σ3, c5, h⟩ := obn_r h
  refine c_V (As := [.int a1]) (rest := []) E hW (m_X7_noModel c5) g1 rfl kw_1204 wv_X7_noModel yo_X7_noModel ⟨rfl, rfl⟩ ⟨(Nat.le_of_ble_eq_true rfl), (Nat.le_of_ble_eq_true rfl)⟩ (lv_size hl) (Nat.le_of_ble_eq_true rfl) ⟨(Nat.le_of_ble_eq_true rfl), (Nat.le_of_ble_eq_true rfl)⟩ rfl dX7_setCoefficient_7 (fun H locs hW => ?_)
  refine W.eq (g2 := F0 m 10 ls [.int x4]) rfl ?_
  refine lv_if_ne (tgt := 42) E.1 E.2.1 dX7_setCoefficient_10 (by decide) (fun g => ?_) (fun g => ?_)
  · have h := ifn h g
    refine lv_iconst (v := (0 : Int32)) E.1 E.2.1 dX7_setCoefficient_42 (by decide) ?_
    exact e_i E hW hr hlk h dX7_setCoefficient_43
  · have h := ifp h g
    refine lv_aload_n E.1 E.2.1 dX7_setCoefficient_13 rfl (lv_at hl 0 rfl) ?_
    refine lv_iload_n E.1 E.2.1 dX7_setCoefficient_14 rfl (lv_at hl 2 rfl) ?_
    refine lv_iload_n E.1 E.2.1 dX7_setCoefficient_15 rfl (lv_at hl 3 rfl) ?_
    obtain ⟨x7, σ6, c8, h⟩ := obn_r h
    refine c_S (As := [.int a2, .int a3]) (rest := [.ref (G.2.2.2 + q0)]) E hW (m_X7_isPlace c8) kw_1212 ws_X7_isPlace yo_X7_isPlace ⟨rfl, rfl⟩ ⟨(Nat.le_of_ble_eq_true rfl), (Nat.le_of_ble_eq_true rfl)⟩ (lv_size hl) (Nat.le_of_ble_eq_true rfl) ⟨(Nat.le_of_ble_eq_true rfl), (Nat.le_of_ble_eq_true rfl)⟩ rfl dX7_setCoefficient_16 (fun H locs hW => ?_)
    refine W.eq (g2 := F0 m 19 ls [.int x7, .ref (G.2.2.2 + q0)]) rfl ?_
    obtain ⟨J17, eJ17, h⟩ := bnd_x h
    have hJ17 : ∀ (q10 : Nat) (x11 : Int32) (x12 : Int32) (x13 : Int32) (x14 : Int32) (x15 : Int32) (q16 : Nat) (σ9 : St) (H : Heap) (locs : List Loc) (ls : Array Slot), J17 q10 x11 x12 x13 x14 x15 q16 σ9 = some (r0, σ0) → Wo G skR A0 s σ9 H locs → lv_has ls 7 [(0, .ref (G.2.2.2 + q10)), (1, .int x11), (2, .int x12), (3, .int x13), (4, .int x14)] → W p l e ({ frames := 3, cells := 0, slots := 0, locals := 64 } : Room) s m args below meth c H locs 0 0 (MQ below (QO (PoC G skR σ0) A0 (some (.int r0))) args s 0 0 A0) (F0 m 35 ls [.int x15, .ref (G.2.2.2 + q16)]) := by
      intro q10 x11 x12 x13 x14 x15 q16 σ9 H locs ls h hW hl
      have h := jr8 eJ17 h
      refine lv_iconst (v := (3 : Int32)) E.1 E.2.1 dX7_setCoefficient_35 (by decide) ?_
      obtain ⟨g18, h⟩ := gd_r h
      obtain ⟨x20, σ19, c21, h⟩ := obn_r h
      refine c_V (As := [.int x15, .int (3 : Int32)]) (rest := []) E hW (m_X7_fails c21) g18 rfl kw_1015 wv_X7_fails yo_X7_fails ⟨rfl, rfl⟩ ⟨(Nat.le_of_ble_eq_true rfl), (Nat.le_of_ble_eq_true rfl)⟩ (lv_size hl) (Nat.le_of_ble_eq_true rfl) ⟨(Nat.le_of_ble_eq_true rfl), (Nat.le_of_ble_eq_true rfl)⟩ rfl dX7_setCoefficient_36 (fun H locs hW => ?_)
      refine W.eq (g2 := F0 m 39 ls [.int x20]) rfl ?_
      refine lv_if_eq (tgt := 44) E.1 E.2.1 dX7_setCoefficient_39 (by decide) (fun g => ?_) (fun g => ?_)
      · have h := ifp h g
        refine lv_aload_n E.1 E.2.1 dX7_setCoefficient_44 rfl (lv_at hl 0 rfl) ?_
        obtain ⟨g22, h⟩ := gd_r h
        obtain ⟨_r, σ23, c24, h⟩ := obn_r h
        refine c_V (As := []) (rest := []) E hW (m_X7_remember c24) g22 rfl kw_1185 wv_X7_remember yo_X7_remember ⟨rfl, rfl⟩ ⟨(Nat.le_of_ble_eq_true rfl), (Nat.le_of_ble_eq_true rfl)⟩ (lv_size hl) (Nat.le_of_ble_eq_true rfl) ⟨(Nat.le_of_ble_eq_true rfl), (Nat.le_of_ble_eq_true rfl)⟩ rfl dX7_setCoefficient_45 (fun H locs hW => ?_)
        refine W.eq (g2 := F0 m 48 ls []) rfl ?_
        refine lv_iconst (v := (1 : Int32)) E.1 E.2.1 dX7_setCoefficient_48 (by decide) ?_
        refine lv_bipush (v := (12 : Int32)) E.1 E.2.1 dX7_setCoefficient_49 (by decide) ?_
        refine lv_iload_n E.1 E.2.1 dX7_setCoefficient_51 rfl (lv_at hl 1 rfl) ?_
        refine lv_imul E.1 E.2.1 dX7_setCoefficient_52 ?_
        refine lv_iadd E.1 E.2.1 dX7_setCoefficient_53 ?_
        refine lv_iload_n E.1 E.2.1 dX7_setCoefficient_54 rfl (lv_at hl 2 rfl) ?_
        refine lv_iload_n E.1 E.2.1 dX7_setCoefficient_55 rfl (lv_at hl 3 rfl) ?_
        obtain ⟨x26, σ25, c27, h⟩ := obn_r h
        refine c_S (As := [.int x12, .int x13]) (rest := [.int ((1 : Int32) + ((12 : Int32) * x11))]) E hW (m_X7_place c27) kw_1093 ws_X7_place yo_X7_place ⟨rfl, rfl⟩ ⟨(Nat.le_of_ble_eq_true rfl), (Nat.le_of_ble_eq_true rfl)⟩ (lv_size hl) (Nat.le_of_ble_eq_true rfl) ⟨(Nat.le_of_ble_eq_true rfl), (Nat.le_of_ble_eq_true rfl)⟩ rfl dX7_setCoefficient_56 (fun H locs hW => ?_)
        refine W.eq (g2 := F0 m 59 ls [.int x26, .int ((1 : Int32) + ((12 : Int32) * x11))]) rfl ?_
        refine lv_iadd E.1 E.2.1 dX7_setCoefficient_59 ?_
        refine lv_topi (fun x28 ex28 => ?_)
        have h := bnd_r ex28 h
        refine lv_istore (lv' := [(5, .int x28), (0, .ref (G.2.2.2 + q10)), (1, .int x11), (2, .int x12), (3, .int x13), (4, .int x14)]) E.1 E.2.1 dX7_setCoefficient_60 hl (by decide) rfl (fun ls hl => ?_)
        refine lv_aload_n E.1 E.2.1 dX7_setCoefficient_62 rfl (lv_at hl 1 rfl) ?_
        refine gf_X7_17 E hW g22 dX7_setCoefficient_63 ?_
        refine lv_iload E.1 E.2.1 dX7_setCoefficient_66 (lv_at hl 0 rfl) ?_
        obtain ⟨g29, h⟩ := gd_r h
        refine r_iald E hW (pr_eq g29.1) g29.2 dX7_setCoefficient_68 ?_
        refine lv_topi (fun x30 ex30 => ?_)
        have h := bnd_r ex30 h
        refine lv_istore (lv' := [(6, .int x30), (5, .int x28), (0, .ref (G.2.2.2 + q10)), (1, .int x11), (2, .int x12), (3, .int x13), (4, .int x14)]) E.1 E.2.1 dX7_setCoefficient_69 hl (by decide) rfl (fun ls hl => ?_)
        refine lv_aload_n E.1 E.2.1 dX7_setCoefficient_71 rfl (lv_at hl 2 rfl) ?_
        refine gf_X7_17 E hW g22 dX7_setCoefficient_72 ?_
        refine lv_iload E.1 E.2.1 dX7_setCoefficient_75 (lv_at hl 1 rfl) ?_
        refine lv_iload E.1 E.2.1 dX7_setCoefficient_77 (lv_at hl 6 rfl) ?_
        refine r_iast E hW (pr_eq g29.1) g29.2 dX7_setCoefficient_79 (fun σ31 H locs eσ31 hW => ?_)
        have h := bnd_r eσ31 h
        refine lv_iload E.1 E.2.1 dX7_setCoefficient_80 (lv_at hl 0 rfl) ?_
        exact e_i E hW hr hlk h dX7_setCoefficient_82
      · have h := ifn h g
        refine lv_iconst (v := (0 : Int32)) E.1 E.2.1 dX7_setCoefficient_42 (by decide) ?_
        exact e_i E hW hr hlk h dX7_setCoefficient_43
    obtain ⟨J39, eJ39, h⟩ := bnd_x h
    have hJ39 : ∀ (q33 : Nat) (x34 : Int32) (x35 : Int32) (x36 : Int32) (x37 : Int32) (q38 : Nat) (σ32 : St) (H : Heap) (locs : List Loc) (ls : Array Slot), J39 q33 x34 x35 x36 x37 q38 σ32 = some (r0, σ0) → Wo G skR A0 s σ32 H locs → lv_has ls 7 [(0, .ref (G.2.2.2 + q33)), (1, .int x34), (2, .int x35), (3, .int x36), (4, .int x37)] → W p l e ({ frames := 3, cells := 0, slots := 0, locals := 64 } : Room) s m args below meth c H locs 0 0 (MQ below (QO (PoC G skR σ0) A0 (some (.int r0))) args s 0 0 A0) (F0 m 30 ls [.ref (G.2.2.2 + q38)]) := by
      intro q33 x34 x35 x36 x37 q38 σ32 H locs ls h hW hl
      have h := jr7 eJ39 h
      refine lv_iconst (v := (1 : Int32)) E.1 E.2.1 dX7_setCoefficient_30 (by decide) ?_
      refine lv_goto (tgt := 35) E.1 E.2.1 dX7_setCoefficient_31 (by decide) ?_
      exact hJ17 _ _ _ _ _ _ _ _ _ _ _ h hW (lv_sub hl [0, 1, 2, 3, 4] rfl)
    refine lv_if_eq (tgt := 30) E.1 E.2.1 dX7_setCoefficient_19 (by decide) (fun g => ?_) (fun g => ?_)
    · have h := ifp h g
      exact hJ39 _ _ _ _ _ _ _ _ _ _ h hW (lv_sub hl [0, 1, 2, 3, 4] rfl)
    · have h := ifn h g
      refine lv_iload E.1 E.2.1 dX7_setCoefficient_22 (lv_at hl 4 rfl) ?_
      obtain ⟨x41, σ40, c42, h⟩ := obn_r h
      refine c_S (As := [.int a4]) (rest := [.ref (G.2.2.2 + q0)]) E hW (m_X7_isValue c42) kw_1296 ws_X7_isValue yo_X7_isValue ⟨rfl, rfl⟩ ⟨(Nat.le_of_ble_eq_true rfl), (Nat.le_of_ble_eq_true rfl)⟩ (lv_size hl) (Nat.le_of_ble_eq_true rfl) ⟨(Nat.le_of_ble_eq_true rfl), (Nat.le_of_ble_eq_true rfl)⟩ rfl dX7_setCoefficient_24 (fun H locs hW => ?_)
      refine W.eq (g2 := F0 m 27 ls [.int x41, .ref (G.2.2.2 + q0)]) rfl ?_
      refine lv_if_ne (tgt := 34) E.1 E.2.1 dX7_setCoefficient_27 (by decide) (fun g => ?_) (fun g => ?_)
      · have h := ifn h g
        refine lv_iconst (v := (0 : Int32)) E.1 E.2.1 dX7_setCoefficient_34 (by decide) ?_
        exact hJ17 _ _ _ _ _ _ _ _ _ _ _ h hW (lv_sub hl [0, 1, 2, 3, 4] rfl)
      · have h := ifp h g
        exact hJ39 _ _ _ _ _ _ _ _ _ _ h hW (lv_sub hl [0, 1, 2, 3, 4] rfl)
set_option maxHeartbeats 4000000 in
set_option maxRecDepth 100000 in
theorem m_X7_setRemainder {l : Launch} {G : GP} {sz : Nat} {q0 : Nat} {a1 : Int32} {a2 : Int32} {a3 : Int32} {σ σ0 : St} {r0 : Int32} (h : f_X7_setRemainder q0 a1 a2 a3 σ = some (r0, σ0)) : Met l yX7_setRemainder [.code yX7_setRemainder cX7_setRemainder 6 (some .int)] ({ frames := 3, cells := 0, slots := 0, locals := 64 } : Room) (va_Pc [.ref (G.2.2.2 + q0), .int a1, .int a2, .int a3] (PreC G skR sz σ)) (QO (PoC G skR σ0) (Aw G.2.2.2 skR.1 sz) (some (.int r0))) 0 0 (Aw G.2.2.2 skR.1 sz) := by
  refine mkMet (by decide +kernel) (Nat.le_of_ble_eq_true rfl) skR_ok ?_
  intro p e s m below meth c ls E hW hl hr hlk
  have hl : lv_has ls 6 [(0, .ref (G.2.2.2 + q0)), (1, .int a1), (2, .int a2), (3, .int a3)] := hl
  generalize Aw G.2.2.2 skR.1 s.heap.size = A0 at E hW ⊢
  generalize ([.ref (G.2.2.2 + q0), .int a1, .int a2, .int a3] : List Value).toArray = args
  unfold f_X7_setRemainder at h
  refine lv_aload_n E.1 E.2.1 dX7_setRemainder_0 rfl (lv_at hl 0 rfl) ?_
  refine lv_iconst (v := (0 : Int32)) E.1 E.2.1 dX7_setRemainder_1 (by decide) ?_
  obtain ⟨g1, h⟩ := gd_r h
  refine pf_X7_79 E hW g1 dX7_setRemainder_2 (fun σ2 H locs eσ2 hW => ?_)
  have h := bnd_r eσ2 h
  refine lv_aload_n E.1 E.2.1 dX7_setRemainder_5 rfl (lv_at hl 0 rfl) ?_
  refine lv_iload_n E.1 E.2.1 dX7_setRemainder_6 rfl (lv_at hl 1 rfl) ?_
  obtain ⟨x4, σ3, c5, h⟩ := obn_r h
  refine c_V (As := [.int a1]) (rest := []) E hW (m_X7_noModel c5) g1 rfl kw_1204 wv_X7_noModel yo_X7_noModel ⟨rfl, rfl⟩ ⟨(Nat.le_of_ble_eq_true rfl), (Nat.le_of_ble_eq_true rfl)⟩ (lv_size hl) (Nat.le_of_ble_eq_true rfl) ⟨(Nat.le_of_ble_eq_true rfl), (Nat.le_of_ble_eq_true rfl)⟩ rfl dX7_setRemainder_7 (fun H locs hW => ?_)
  refine W.eq (g2 := F0 m 10 ls [.int x4]) rfl ?_
  refine lv_if_ne (tgt := 45) E.1 E.2.1 dX7_setRemainder_10 (by decide) (fun g => ?_) (fun g => ?_)
  · have h := ifn h g
    refine lv_iconst (v := (0 : Int32)) E.1 E.2.1 dX7_setRemainder_45 (by decide) ?_
    exact e_i E hW hr hlk h dX7_setRemainder_46
  · have h := ifp h g
    refine lv_aload_n E.1 E.2.1 dX7_setRemainder_13 rfl (lv_at hl 0 rfl) ?_
    refine lv_iload_n E.1 E.2.1 dX7_setRemainder_14 rfl (lv_at hl 2 rfl) ?_
    obtain ⟨x7, σ6, c8, h⟩ := obn_r h
    refine c_S (As := [.int a2]) (rest := [.ref (G.2.2.2 + q0)]) E hW (m_X7_isValue c8) kw_1296 ws_X7_isValue yo_X7_isValue ⟨rfl, rfl⟩ ⟨(Nat.le_of_ble_eq_true rfl), (Nat.le_of_ble_eq_true rfl)⟩ (lv_size hl) (Nat.le_of_ble_eq_true rfl) ⟨(Nat.le_of_ble_eq_true rfl), (Nat.le_of_ble_eq_true rfl)⟩ rfl dX7_setRemainder_15 (fun H locs hW => ?_)
    refine W.eq (g2 := F0 m 18 ls [.int x7, .ref (G.2.2.2 + q0)]) rfl ?_
    obtain ⟨J16, eJ16, h⟩ := bnd_x h
    have hJ16 : ∀ (q10 : Nat) (x11 : Int32) (x12 : Int32) (x13 : Int32) (x14 : Int32) (q15 : Nat) (σ9 : St) (H : Heap) (locs : List Loc) (ls : Array Slot), J16 q10 x11 x12 x13 x14 q15 σ9 = some (r0, σ0) → Wo G skR A0 s σ9 H locs → lv_has ls 6 [(0, .ref (G.2.2.2 + q10)), (1, .int x11), (2, .int x12), (3, .int x13)] → W p l e ({ frames := 3, cells := 0, slots := 0, locals := 64 } : Room) s m args below meth c H locs 0 0 (MQ below (QO (PoC G skR σ0) A0 (some (.int r0))) args s 0 0 A0) (F0 m 38 ls [.int x14, .ref (G.2.2.2 + q15)]) := by
      intro q10 x11 x12 x13 x14 q15 σ9 H locs ls h hW hl
      have h := jr7 eJ16 h
      refine lv_iconst (v := (3 : Int32)) E.1 E.2.1 dX7_setRemainder_38 (by decide) ?_
      obtain ⟨g17, h⟩ := gd_r h
      obtain ⟨x19, σ18, c20, h⟩ := obn_r h
      refine c_V (As := [.int x14, .int (3 : Int32)]) (rest := []) E hW (m_X7_fails c20) g17 rfl kw_1015 wv_X7_fails yo_X7_fails ⟨rfl, rfl⟩ ⟨(Nat.le_of_ble_eq_true rfl), (Nat.le_of_ble_eq_true rfl)⟩ (lv_size hl) (Nat.le_of_ble_eq_true rfl) ⟨(Nat.le_of_ble_eq_true rfl), (Nat.le_of_ble_eq_true rfl)⟩ rfl dX7_setRemainder_39 (fun H locs hW => ?_)
      refine W.eq (g2 := F0 m 42 ls [.int x19]) rfl ?_
      refine lv_if_eq (tgt := 47) E.1 E.2.1 dX7_setRemainder_42 (by decide) (fun g => ?_) (fun g => ?_)
      · have h := ifp h g
        refine lv_aload_n E.1 E.2.1 dX7_setRemainder_47 rfl (lv_at hl 0 rfl) ?_
        obtain ⟨g21, h⟩ := gd_r h
        obtain ⟨_r, σ22, c23, h⟩ := obn_r h
        refine c_V (As := []) (rest := []) E hW (m_X7_remember c23) g21 rfl kw_1185 wv_X7_remember yo_X7_remember ⟨rfl, rfl⟩ ⟨(Nat.le_of_ble_eq_true rfl), (Nat.le_of_ble_eq_true rfl)⟩ (lv_size hl) (Nat.le_of_ble_eq_true rfl) ⟨(Nat.le_of_ble_eq_true rfl), (Nat.le_of_ble_eq_true rfl)⟩ rfl dX7_setRemainder_48 (fun H locs hW => ?_)
        refine W.eq (g2 := F0 m 51 ls []) rfl ?_
        refine lv_iconst (v := (1 : Int32)) E.1 E.2.1 dX7_setRemainder_51 (by decide) ?_
        refine lv_bipush (v := (12 : Int32)) E.1 E.2.1 dX7_setRemainder_52 (by decide) ?_
        refine lv_iload_n E.1 E.2.1 dX7_setRemainder_54 rfl (lv_at hl 1 rfl) ?_
        refine lv_imul E.1 E.2.1 dX7_setRemainder_55 ?_
        refine lv_iadd E.1 E.2.1 dX7_setRemainder_56 ?_
        refine lv_bipush (v := (10 : Int32)) E.1 E.2.1 dX7_setRemainder_57 (by decide) ?_
        refine lv_iadd E.1 E.2.1 dX7_setRemainder_59 ?_
        refine lv_topi (fun x24 ex24 => ?_)
        have h := bnd_r ex24 h
        refine lv_istore (lv' := [(4, .int x24), (0, .ref (G.2.2.2 + q10)), (1, .int x11), (2, .int x12), (3, .int x13)]) E.1 E.2.1 dX7_setRemainder_60 hl (by decide) rfl (fun ls hl => ?_)
        refine lv_aload_n E.1 E.2.1 dX7_setRemainder_62 rfl (lv_at hl 1 rfl) ?_
        refine gf_X7_17 E hW g21 dX7_setRemainder_63 ?_
        refine lv_iload E.1 E.2.1 dX7_setRemainder_66 (lv_at hl 0 rfl) ?_
        refine lv_iconst (v := (1 : Int32)) E.1 E.2.1 dX7_setRemainder_68 (by decide) ?_
        refine lv_iadd E.1 E.2.1 dX7_setRemainder_69 ?_
        obtain ⟨g25, h⟩ := gd_r h
        refine r_iald E hW (pr_eq g25.1) g25.2 dX7_setRemainder_70 ?_
        refine lv_aload_n E.1 E.2.1 dX7_setRemainder_71 rfl (lv_at hl 1 rfl) ?_
        refine gf_X7_17 E hW g21 dX7_setRemainder_72 ?_
        refine lv_iload E.1 E.2.1 dX7_setRemainder_75 (lv_at hl 0 rfl) ?_
        obtain ⟨g26, h⟩ := gd_r h
        refine r_iald E hW (pr_eq g26.1) g26.2 dX7_setRemainder_77 ?_
        refine lv_isub E.1 E.2.1 dX7_setRemainder_78 ?_
        refine lv_topi (fun x27 ex27 => ?_)
        have h := bnd_r ex27 h
        refine lv_istore (lv' := [(5, .int x27), (4, .int x24), (0, .ref (G.2.2.2 + q10)), (1, .int x11), (2, .int x12), (3, .int x13)]) E.1 E.2.1 dX7_setRemainder_79 hl (by decide) rfl (fun ls hl => ?_)
        refine lv_aload_n E.1 E.2.1 dX7_setRemainder_81 rfl (lv_at hl 2 rfl) ?_
        refine gf_X7_17 E hW g21 dX7_setRemainder_82 ?_
        refine lv_iload E.1 E.2.1 dX7_setRemainder_85 (lv_at hl 1 rfl) ?_
        refine lv_iload_n E.1 E.2.1 dX7_setRemainder_87 rfl (lv_at hl 4 rfl) ?_
        refine r_iast E hW (pr_eq g26.1) g26.2 dX7_setRemainder_88 (fun σ28 H locs eσ28 hW => ?_)
        have h := bnd_r eσ28 h
        refine lv_aload_n E.1 E.2.1 dX7_setRemainder_89 rfl (lv_at hl 2 rfl) ?_
        refine gf_X7_17 E hW g21 dX7_setRemainder_90 ?_
        refine lv_iload E.1 E.2.1 dX7_setRemainder_93 (lv_at hl 1 rfl) ?_
        refine lv_iconst (v := (1 : Int32)) E.1 E.2.1 dX7_setRemainder_95 (by decide) ?_
        refine lv_iadd E.1 E.2.1 dX7_setRemainder_96 ?_
        refine lv_iload_n E.1 E.2.1 dX7_setRemainder_97 rfl (lv_at hl 5 rfl) ?_
        refine r_iast E hW (pr_eq g25.1) g25.2 dX7_setRemainder_98 (fun σ29 H locs eσ29 hW => ?_)
        have h := bnd_r eσ29 h
        refine lv_iload E.1 E.2.1 dX7_setRemainder_99 (lv_at hl 0 rfl) ?_
        exact e_i E hW hr hlk h dX7_setRemainder_101
      · have h := ifn h g
        refine lv_iconst (v := (0 : Int32)) E.1 E.2.1 dX7_setRemainder_45 (by decide) ?_
        exact e_i E hW hr hlk h dX7_setRemainder_46
    obtain ⟨J36, eJ36, h⟩ := bnd_x h
    have hJ36 : ∀ (q31 : Nat) (x32 : Int32) (x33 : Int32) (x34 : Int32) (q35 : Nat) (σ30 : St) (H : Heap) (locs : List Loc) (ls : Array Slot), J36 q31 x32 x33 x34 q35 σ30 = some (r0, σ0) → Wo G skR A0 s σ30 H locs → lv_has ls 6 [(0, .ref (G.2.2.2 + q31)), (1, .int x32), (2, .int x33), (3, .int x34)] → W p l e ({ frames := 3, cells := 0, slots := 0, locals := 64 } : Room) s m args below meth c H locs 0 0 (MQ below (QO (PoC G skR σ0) A0 (some (.int r0))) args s 0 0 A0) (F0 m 33 ls [.ref (G.2.2.2 + q35)]) := by
      intro q31 x32 x33 x34 q35 σ30 H locs ls h hW hl
      have h := jr6 eJ36 h
      refine lv_iconst (v := (1 : Int32)) E.1 E.2.1 dX7_setRemainder_33 (by decide) ?_
      refine lv_goto (tgt := 38) E.1 E.2.1 dX7_setRemainder_34 (by decide) ?_
      exact hJ16 _ _ _ _ _ _ _ _ _ _ h hW (lv_sub hl [0, 1, 2, 3] rfl)
    refine lv_if_eq (tgt := 33) E.1 E.2.1 dX7_setRemainder_18 (by decide) (fun g => ?_) (fun g => ?_)
    · have h := ifp h g
      exact hJ36 _ _ _ _ _ _ _ _ _ h hW (lv_sub hl [0, 1, 2, 3] rfl)
    · have h := ifn h g
      refine lv_iload_n E.1 E.2.1 dX7_setRemainder_21 rfl (lv_at hl 3 rfl) ?_
      obtain ⟨x38, σ37, c39, h⟩ := obn_r h
      refine c_S (As := [.int a3]) (rest := [.ref (G.2.2.2 + q0)]) E hW (m_X7_isValue c39) kw_1296 ws_X7_isValue yo_X7_isValue ⟨rfl, rfl⟩ ⟨(Nat.le_of_ble_eq_true rfl), (Nat.le_of_ble_eq_true rfl)⟩ (lv_size hl) (Nat.le_of_ble_eq_true rfl) ⟨(Nat.le_of_ble_eq_true rfl), (Nat.le_of_ble_eq_true rfl)⟩ rfl dX7_setRemainder_22 (fun H locs hW => ?_)
      refine W.eq (g2 := F0 m 25 ls [.int x38, .ref (G.2.2.2 + q0)]) rfl ?_
      refine lv_if_eq (tgt := 33) E.1 E.2.1 dX7_setRemainder_25 (by decide) (fun g => ?_) (fun g => ?_)
      · have h := ifp h g
        exact hJ36 _ _ _ _ _ _ _ _ _ h hW (lv_sub hl [0, 1, 2, 3] rfl)
      · have h := ifn h g
        refine lv_iload_n E.1 E.2.1 dX7_setRemainder_28 rfl (lv_at hl 3 rfl) ?_
        refine lv_iload_n E.1 E.2.1 dX7_setRemainder_29 rfl (lv_at hl 2 rfl) ?_
        refine lv_icmp_ge (tgt := 37) E.1 E.2.1 dX7_setRemainder_30 (by decide) (fun g => ?_) (fun g => ?_)
        · have h := ifp h g
          refine lv_iconst (v := (0 : Int32)) E.1 E.2.1 dX7_setRemainder_37 (by decide) ?_
          exact hJ16 _ _ _ _ _ _ _ _ _ _ h hW (lv_sub hl [0, 1, 2, 3] rfl)
        · have h := ifn h g
          exact hJ36 _ _ _ _ _ _ _ _ _ h hW (lv_sub hl [0, 1, 2, 3] rfl)
set_option maxHeartbeats 4000000 in
set_option maxRecDepth 100000 in
theorem m_X7_clear {l : Launch} {G : GP} {sz : Nat} {q0 : Nat} {a1 : Int32} {σ σ0 : St} {r0 : Int32} (h : f_X7_clear q0 a1 σ = some (r0, σ0)) : Met l yX7_clear [.code yX7_clear cX7_clear 3 (some .boolean)] ({ frames := 2, cells := 0, slots := 0, locals := 43 } : Room) (va_Pc [.ref (G.2.2.2 + q0), .int a1] (PreC G skR sz σ)) (QO (PoC G skR σ0) (Aw G.2.2.2 skR.1 sz) (some (.int r0))) 0 0 (Aw G.2.2.2 skR.1 sz) := by
  refine mkMet (by decide +kernel) (Nat.le_of_ble_eq_true rfl) skR_ok ?_
  intro p e s m below meth c ls E hW hl hr hlk
  have hl : lv_has ls 3 [(0, .ref (G.2.2.2 + q0)), (1, .int a1)] := hl
  generalize Aw G.2.2.2 skR.1 s.heap.size = A0 at E hW ⊢
  generalize ([.ref (G.2.2.2 + q0), .int a1] : List Value).toArray = args
  unfold f_X7_clear at h
  refine lv_aload_n E.1 E.2.1 dX7_clear_0 rfl (lv_at hl 0 rfl) ?_
  refine lv_iconst (v := (0 : Int32)) E.1 E.2.1 dX7_clear_1 (by decide) ?_
  obtain ⟨g1, h⟩ := gd_r h
  refine pf_X7_79 E hW g1 dX7_clear_2 (fun σ2 H locs eσ2 hW => ?_)
  have h := bnd_r eσ2 h
  refine lv_aload_n E.1 E.2.1 dX7_clear_5 rfl (lv_at hl 0 rfl) ?_
  refine lv_iload_n E.1 E.2.1 dX7_clear_6 rfl (lv_at hl 1 rfl) ?_
  obtain ⟨x4, σ3, c5, h⟩ := obn_r h
  refine c_V (As := [.int a1]) (rest := []) E hW (m_X7_noIndex c5) g1 rfl kw_1208 wv_X7_noIndex yo_X7_noIndex ⟨rfl, rfl⟩ ⟨(Nat.le_of_ble_eq_true rfl), (Nat.le_of_ble_eq_true rfl)⟩ (lv_size hl) (Nat.le_of_ble_eq_true rfl) ⟨(Nat.le_of_ble_eq_true rfl), (Nat.le_of_ble_eq_true rfl)⟩ rfl dX7_clear_7 (fun H locs hW => ?_)
  refine W.eq (g2 := F0 m 10 ls [.int x4]) rfl ?_
  refine lv_if_eq (tgt := 15) E.1 E.2.1 dX7_clear_10 (by decide) (fun g => ?_) (fun g => ?_)
  · have h := ifp h g
    refine lv_aload_n E.1 E.2.1 dX7_clear_15 rfl (lv_at hl 0 rfl) ?_
    obtain ⟨_r, σ6, c7, h⟩ := obn_r h
    refine c_V (As := []) (rest := []) E hW (m_X7_remember c7) g1 rfl kw_1185 wv_X7_remember yo_X7_remember ⟨rfl, rfl⟩ ⟨(Nat.le_of_ble_eq_true rfl), (Nat.le_of_ble_eq_true rfl)⟩ (lv_size hl) (Nat.le_of_ble_eq_true rfl) ⟨(Nat.le_of_ble_eq_true rfl), (Nat.le_of_ble_eq_true rfl)⟩ rfl dX7_clear_16 (fun H locs hW => ?_)
    refine W.eq (g2 := F0 m 19 ls []) rfl ?_
    refine lv_aload_n E.1 E.2.1 dX7_clear_19 rfl (lv_at hl 0 rfl) ?_
    refine gf_X7_17 E hW g1 dX7_clear_20 ?_
    refine lv_iload_n E.1 E.2.1 dX7_clear_23 rfl (lv_at hl 1 rfl) ?_
    obtain ⟨x9, σ8, c10, h⟩ := obn_r h
    refine c_S (As := [.ref (G.2.2.2 + (rR q0 8)), .int a1]) (rest := []) E hW (m_X7_isDefined c10) kw_1145 ws_X7_isDefined yo_X7_isDefined ⟨rfl, rfl⟩ ⟨(Nat.le_of_ble_eq_true rfl), (Nat.le_of_ble_eq_true rfl)⟩ (lv_size hl) (Nat.le_of_ble_eq_true rfl) ⟨(Nat.le_of_ble_eq_true rfl), (Nat.le_of_ble_eq_true rfl)⟩ rfl dX7_clear_24 (fun H locs hW => ?_)
    refine W.eq (g2 := F0 m 27 ls [.int x9]) rfl ?_
    refine lv_istore_n (lv' := [(2, .int x9), (0, .ref (G.2.2.2 + q0)), (1, .int a1)]) E.1 E.2.1 dX7_clear_27 rfl hl (by decide) rfl (fun ls hl => ?_)
    refine lv_aload_n E.1 E.2.1 dX7_clear_28 rfl (lv_at hl 1 rfl) ?_
    refine gf_X7_17 E hW g1 dX7_clear_29 ?_
    refine lv_iconst (v := (0 : Int32)) E.1 E.2.1 dX7_clear_32 (by decide) ?_
    refine lv_dup2_11 E.1 E.2.1 dX7_clear_33 rfl rfl ?_
    obtain ⟨g11, h⟩ := gd_r h
    refine r_iald E hW (pr_eq g11.1) g11.2 dX7_clear_34 ?_
    refine lv_iconst (v := (1 : Int32)) E.1 E.2.1 dX7_clear_35 (by decide) ?_
    refine lv_iload_n E.1 E.2.1 dX7_clear_36 rfl (lv_at hl 2 rfl) ?_
    refine lv_ishl E.1 E.2.1 dX7_clear_37 ?_
    refine lv_iconst (v := (-1 : Int32)) E.1 E.2.1 dX7_clear_38 (by decide) ?_
    refine lv_ixor E.1 E.2.1 dX7_clear_39 ?_
    refine lv_iand E.1 E.2.1 dX7_clear_40 ?_
    refine r_iast E hW (pr_eq g11.1) g11.2 dX7_clear_41 (fun σ12 H locs eσ12 hW => ?_)
    have h := bnd_r eσ12 h
    refine lv_iload_n E.1 E.2.1 dX7_clear_42 rfl (lv_at hl 0 rfl) ?_
    obtain ⟨g13, h⟩ := gd_r h
    exact e_z E hW hr hlk g13 h dX7_clear_43
  · have h := ifn h g
    refine lv_iconst (v := (0 : Int32)) E.1 E.2.1 dX7_clear_13 (by decide) ?_
    exact e_z E hW hr hlk (by decide) h dX7_clear_14
set_option maxHeartbeats 4000000 in
set_option maxRecDepth 100000 in
theorem m_X7_undo {l : Launch} {G : GP} {sz : Nat} {q0 : Nat} {σ σ0 : St} {r0 : Int32} (h : f_X7_undo q0 σ = some (r0, σ0)) : Met l yX7_undo [.code yX7_undo cX7_undo 1 (some .int)] ({ frames := 1, cells := 0, slots := 0, locals := 22 } : Room) (va_Pc [.ref (G.2.2.2 + q0)] (PreC G skR sz σ)) (QO (PoC G skR σ0) (Aw G.2.2.2 skR.1 sz) (some (.int r0))) 0 0 (Aw G.2.2.2 skR.1 sz) := by
  refine mkMet (by decide +kernel) (Nat.le_of_ble_eq_true rfl) skR_ok ?_
  intro p e s m below meth c ls E hW hl hr hlk
  have hl : lv_has ls 1 [(0, .ref (G.2.2.2 + q0))] := hl
  generalize Aw G.2.2.2 skR.1 s.heap.size = A0 at E hW ⊢
  generalize ([.ref (G.2.2.2 + q0)] : List Value).toArray = args
  unfold f_X7_undo at h
  refine lv_aload_n E.1 E.2.1 dX7_undo_0 rfl (lv_at hl 0 rfl) ?_
  refine lv_iconst (v := (0 : Int32)) E.1 E.2.1 dX7_undo_1 (by decide) ?_
  obtain ⟨g1, h⟩ := gd_r h
  refine pf_X7_79 E hW g1 dX7_undo_2 (fun σ2 H locs eσ2 hW => ?_)
  have h := bnd_r eσ2 h
  refine lv_aload_n E.1 E.2.1 dX7_undo_5 rfl (lv_at hl 0 rfl) ?_
  refine gf_X7_322 E hW g1 dX7_undo_6 ?_
  refine lv_if_ne (tgt := 14) E.1 E.2.1 dX7_undo_9 (by decide) (fun g => ?_) (fun g => ?_)
  · have h := ifn h g
    refine lv_aload_n E.1 E.2.1 dX7_undo_14 rfl (lv_at hl 0 rfl) ?_
    refine lv_dup E.1 E.2.1 dX7_undo_15 rfl ?_
    refine gf_X7_322 E hW g1 dX7_undo_16 ?_
    refine lv_iconst (v := (1 : Int32)) E.1 E.2.1 dX7_undo_19 (by decide) ?_
    refine lv_isub E.1 E.2.1 dX7_undo_20 ?_
    refine pf_X7_322 E hW g1 dX7_undo_21 (fun σ3 H locs eσ3 hW => ?_)
    have h := bnd_r eσ3 h
    refine lv_aload_n E.1 E.2.1 dX7_undo_24 rfl (lv_at hl 0 rfl) ?_
    refine gf_X7_25 E hW g1 dX7_undo_25 ?_
    refine lv_aload_n E.1 E.2.1 dX7_undo_28 rfl (lv_at hl 0 rfl) ?_
    refine gf_X7_322 E hW g1 dX7_undo_29 ?_
    obtain ⟨g4, h⟩ := gd_r h
    refine r_aald (t := 2) (ty := .array .int) E hW (pr_eq g4.1) g4.2 rfl rfl (by decide) dX7_undo_32 ?_
    refine lv_aload_n E.1 E.2.1 dX7_undo_33 rfl (lv_at hl 0 rfl) ?_
    refine gf_X7_17 E hW g1 dX7_undo_34 ?_
    obtain ⟨_r, σ5, c6, h⟩ := obn_r h
    refine c_S (As := [.ref (G.2.2.2 + (rR (rR q0 10) (σ3.1 q0 11).toNatClampNeg)), .ref (G.2.2.2 + (rR q0 8))]) (rest := []) E hW (m_X7_copy c6) kw_1189 ws_X7_copy yo_X7_copy ⟨rfl, rfl⟩ ⟨(Nat.le_of_ble_eq_true rfl), (Nat.le_of_ble_eq_true rfl)⟩ (lv_size hl) (Nat.le_of_ble_eq_true rfl) ⟨(Nat.le_of_ble_eq_true rfl), (Nat.le_of_ble_eq_true rfl)⟩ rfl dX7_undo_37 (fun H locs hW => ?_)
    refine W.eq (g2 := F0 m 40 ls []) rfl ?_
    refine lv_aload_n E.1 E.2.1 dX7_undo_40 rfl (lv_at hl 0 rfl) ?_
    refine gf_X7_322 E hW g1 dX7_undo_41 ?_
    exact e_i E hW hr hlk h dX7_undo_44
  · have h := ifp h g
    refine lv_iconst (v := (-1 : Int32)) E.1 E.2.1 dX7_undo_12 (by decide) ?_
    exact e_i E hW hr hlk h dX7_undo_13
set_option maxHeartbeats 4000000 in
set_option maxRecDepth 100000 in
theorem L_X7_checksum_24 {p : Program} {l : Launch} {e : Env} {s : State} {m : MethodId} {args : Array Value} {below : List Frame} {meth : Method} {c : Code} {G : GP} {A0 : Nat → Prop} {σ0 : St} {r0 : Int64} {K70 : Nat → Int64 → Int32 → St → Option (Int64 × St)} (E : En p m c s cX7_checksum 5 yX7_checksum.cls G A0) (hr : meth.sig.returnType = (some .long)) (hlk : meth.locks = false) (hK70 : ∀ (q16 : Nat) (x17 : Int64) (x18 : Int32) (σ15 : St) (H : Heap) (locs : List Loc) (ls : Array Slot), K70 q16 x17 x18 σ15 = some (r0, σ0) → Wo G skR A0 s σ15 H locs → lv_has ls 5 [(0, .ref (G.2.2.2 + q16)), (1, .long x17), (3, .int x18)] → W p l e ({ frames := 1, cells := 0, slots := 0, locals := 21 } : Room) s m args below meth c H locs 0 0 (MQ below (QO (PoC G skR σ0) A0 (some (.long r0))) args s 0 0 A0) (F0 m 70 ls [])) : ∀ (n19 : Nat) (q11 : Nat) (x12 : Int64) (x13 : Int32) (x14 : Int32) (σ10 : St) (H : Heap) (locs : List Loc) (ls : Array Slot), f_X7_checksum_L24 K70 n19 q11 x12 x13 x14 σ10 = some (r0, σ0) → Wo G skR A0 s σ10 H locs → lv_has ls 5 [(0, .ref (G.2.2.2 + q11)), (1, .long x12), (3, .int x13), (4, .int x14)] → W p l e ({ frames := 1, cells := 0, slots := 0, locals := 21 } : Room) s m args below meth c H locs 0 0 (MQ below (QO (PoC G skR σ0) A0 (some (.long r0))) args s 0 0 A0) (F0 m 24 ls []) := by
  intro n19
  induction n19 with
  | zero =>
    intro q11 x12 x13 x14 σ10 H locs ls h hW hl
    rw [f_X7_checksum_L24] at h
    cases h
  | succ n19 ih =>
    intro q11 x12 x13 x14 σ10 H locs ls h hW hl
    rw [f_X7_checksum_L24] at h
    refine lv_iload E.1 E.2.1 dX7_checksum_24 (lv_at hl 3 rfl) ?_
    refine lv_bipush (v := (12 : Int32)) E.1 E.2.1 dX7_checksum_26 (by decide) ?_
    refine lv_icmp_ge (tgt := 70) E.1 E.2.1 dX7_checksum_28 (by decide) (fun g => ?_) (fun g => ?_)
    · have h := ifp h g
      exact hK70 _ _ _ _ _ _ _ h hW (lv_sub hl [0, 1, 2] rfl)
    · have h := ifn h g
      refine lv_aload_n E.1 E.2.1 dX7_checksum_31 rfl (lv_at hl 0 rfl) ?_
      obtain ⟨g20, h⟩ := gd_r h
      refine gf_X7_17 E hW g20 dX7_checksum_32 ?_
      refine lv_iload_n E.1 E.2.1 dX7_checksum_35 rfl (lv_at hl 2 rfl) ?_
      obtain ⟨x22, σ21, c23, h⟩ := obn_r h
      refine c_S (As := [.ref (G.2.2.2 + (rR q11 8)), .int x13]) (rest := []) E hW (m_X7_isDefined c23) kw_1145 ws_X7_isDefined yo_X7_isDefined ⟨rfl, rfl⟩ ⟨(Nat.le_of_ble_eq_true rfl), (Nat.le_of_ble_eq_true rfl)⟩ (lv_size hl) (Nat.le_of_ble_eq_true rfl) ⟨(Nat.le_of_ble_eq_true rfl), (Nat.le_of_ble_eq_true rfl)⟩ rfl dX7_checksum_36 (fun H locs hW => ?_)
      refine W.eq (g2 := F0 m 39 ls [.int x22]) rfl ?_
      refine lv_if_eq (tgt := 70) E.1 E.2.1 dX7_checksum_39 (by decide) (fun g => ?_) (fun g => ?_)
      · have h := ifp h g
        exact hK70 _ _ _ _ _ _ _ h hW (lv_sub hl [0, 1, 2] rfl)
      · have h := ifn h g
        refine lv_ldc2 (v := (31 : Int64)) E.1 E.2.1 E.2.2.2.1 (E.wd kw_1315) dX7_checksum_42 ?_
        refine lv_lload_n E.1 E.2.1 dX7_checksum_45 rfl (lv_at hl 1 rfl) ?_
        refine lv_lmul E.1 E.2.1 dX7_checksum_46 ?_
        refine lv_aload_n E.1 E.2.1 dX7_checksum_47 rfl (lv_at hl 0 rfl) ?_
        refine gf_X7_17 E hW g20 dX7_checksum_48 ?_
        refine lv_iconst (v := (1 : Int32)) E.1 E.2.1 dX7_checksum_51 (by decide) ?_
        refine lv_bipush (v := (12 : Int32)) E.1 E.2.1 dX7_checksum_52 (by decide) ?_
        refine lv_iload_n E.1 E.2.1 dX7_checksum_54 rfl (lv_at hl 2 rfl) ?_
        refine lv_imul E.1 E.2.1 dX7_checksum_55 ?_
        refine lv_iadd E.1 E.2.1 dX7_checksum_56 ?_
        refine lv_iload E.1 E.2.1 dX7_checksum_57 (lv_at hl 3 rfl) ?_
        refine lv_iadd E.1 E.2.1 dX7_checksum_59 ?_
        obtain ⟨g24, h⟩ := gd_r h
        refine r_iald E hW (pr_eq g24.1) g24.2 dX7_checksum_60 ?_
        refine lv_i2l E.1 E.2.1 dX7_checksum_61 rfl ?_
        refine lv_ladd E.1 E.2.1 dX7_checksum_62 ?_
        refine lv_topl (fun x25 ex25 => ?_)
        have h := bnd_r ex25 h
        refine lv_lstore_n (lv' := [(1, .long x25), (0, .ref (G.2.2.2 + q11)), (3, .int x13), (4, .int x14)]) E.1 E.2.1 dX7_checksum_63 rfl hl (by decide) rfl (fun ls hl => ?_)
        obtain ⟨x26, ex26⟩ : ∃ y : Int32, y = x14 + (1 : Int32) := ⟨_, rfl⟩
        have h := bnd_r ex26 h
        refine lv_iinc (v := x26) (lv' := [(4, .int x26), (1, .long x25), (0, .ref (G.2.2.2 + q11)), (3, .int x13)]) E.1 E.2.1 dX7_checksum_64 hl (k := 3) rfl (by rw [ex26]; rfl) (by decide) rfl (fun ls hl => ?_)
        refine lv_goto (tgt := 24) E.1 E.2.1 dX7_checksum_67 (by decide) ?_
        exact ih _ _ _ _ _ _ _ _ h hW (lv_sub hl [2, 1, 3, 0] rfl)
set_option maxHeartbeats 4000000 in
set_option maxRecDepth 100000 in
theorem L_X7_checksum_15 {p : Program} {l : Launch} {e : Env} {s : State} {m : MethodId} {args : Array Value} {below : List Frame} {meth : Method} {c : Code} {G : GP} {A0 : Nat → Prop} {σ0 : St} {r0 : Int64} (E : En p m c s cX7_checksum 5 yX7_checksum.cls G A0) (hr : meth.sig.returnType = (some .long)) (hlk : meth.locks = false) : ∀ (n9 : Nat) (q6 : Nat) (x7 : Int64) (x8 : Int32) (σ5 : St) (H : Heap) (locs : List Loc) (ls : Array Slot), f_X7_checksum_L15 n9 q6 x7 x8 σ5 = some (r0, σ0) → Wo G skR A0 s σ5 H locs → lv_has ls 5 [(0, .ref (G.2.2.2 + q6)), (1, .long x7), (3, .int x8)] → W p l e ({ frames := 1, cells := 0, slots := 0, locals := 21 } : Room) s m args below meth c H locs 0 0 (MQ below (QO (PoC G skR σ0) A0 (some (.long r0))) args s 0 0 A0) (F0 m 15 ls []) := by
  intro n9
  induction n9 with
  | zero =>
    intro q6 x7 x8 σ5 H locs ls h hW hl
    rw [f_X7_checksum_L15] at h
    cases h
  | succ n9 ih =>
    intro q6 x7 x8 σ5 H locs ls h hW hl
    rw [f_X7_checksum_L15] at h
    refine lv_iload_n E.1 E.2.1 dX7_checksum_15 rfl (lv_at hl 2 rfl) ?_
    refine lv_bipush (v := (8 : Int32)) E.1 E.2.1 dX7_checksum_16 (by decide) ?_
    refine lv_icmp_ge (tgt := 76) E.1 E.2.1 dX7_checksum_18 (by decide) (fun g => ?_) (fun g => ?_)
    · have h := ifp h g
      refine lv_lload_n E.1 E.2.1 dX7_checksum_76 rfl (lv_at hl 1 rfl) ?_
      exact e_j E hW hr hlk h dX7_checksum_77
    · have h := ifn h g
      refine lv_iconst (v := (0 : Int32)) E.1 E.2.1 dX7_checksum_21 (by decide) ?_
      refine lv_istore (lv' := [(4, .int (0 : Int32)), (0, .ref (G.2.2.2 + q6)), (1, .long x7), (3, .int x8)]) E.1 E.2.1 dX7_checksum_22 hl (by decide) rfl (fun ls hl => ?_)
      refine L_X7_checksum_24 E hr hlk ?_ _ _ _ _ _ _ _ _ _ h hW (lv_sub hl [1, 2, 3, 0] rfl)
      · intro q16 x17 x18 σ15 H locs ls h hW hl
        obtain ⟨x27, ex27⟩ : ∃ y : Int32, y = x18 + (1 : Int32) := ⟨_, rfl⟩
        have h := bnd_r ex27 h
        refine lv_iinc (v := x27) (lv' := [(3, .int x27), (0, .ref (G.2.2.2 + q16)), (1, .long x17)]) E.1 E.2.1 dX7_checksum_70 hl (k := 2) rfl (by rw [ex27]; rfl) (by decide) rfl (fun ls hl => ?_)
        refine lv_goto (tgt := 15) E.1 E.2.1 dX7_checksum_73 (by decide) ?_
        exact ih _ _ _ _ _ _ _ h hW (lv_sub hl [1, 2, 0] rfl)
set_option maxHeartbeats 4000000 in
set_option maxRecDepth 100000 in
theorem m_X7_checksum {l : Launch} {G : GP} {sz : Nat} {q0 : Nat} {σ σ0 : St} {r0 : Int64} (h : f_X7_checksum q0 σ = some (r0, σ0)) : Met l yX7_checksum [.code yX7_checksum cX7_checksum 5 (some .long)] ({ frames := 1, cells := 0, slots := 0, locals := 21 } : Room) (va_Pc [.ref (G.2.2.2 + q0)] (PreC G skR sz σ)) (QO (PoC G skR σ0) (Aw G.2.2.2 skR.1 sz) (some (.long r0))) 0 0 (Aw G.2.2.2 skR.1 sz) := by
  refine mkMet (by decide +kernel) (Nat.le_of_ble_eq_true rfl) skR_ok ?_
  intro p e s m below meth c ls E hW hl hr hlk
  have hl : lv_has ls 5 [(0, .ref (G.2.2.2 + q0))] := hl
  generalize Aw G.2.2.2 skR.1 s.heap.size = A0 at E hW ⊢
  generalize ([.ref (G.2.2.2 + q0)] : List Value).toArray = args
  unfold f_X7_checksum at h
  refine lv_aload_n E.1 E.2.1 dX7_checksum_0 rfl (lv_at hl 0 rfl) ?_
  refine lv_iconst (v := (0 : Int32)) E.1 E.2.1 dX7_checksum_1 (by decide) ?_
  obtain ⟨g1, h⟩ := gd_r h
  refine pf_X7_79 E hW g1 dX7_checksum_2 (fun σ2 H locs eσ2 hW => ?_)
  have h := bnd_r eσ2 h
  refine lv_aload_n E.1 E.2.1 dX7_checksum_5 rfl (lv_at hl 0 rfl) ?_
  refine gf_X7_17 E hW g1 dX7_checksum_6 ?_
  refine lv_iconst (v := (0 : Int32)) E.1 E.2.1 dX7_checksum_9 (by decide) ?_
  obtain ⟨g3, h⟩ := gd_r h
  refine r_iald E hW (pr_eq g3.1) g3.2 dX7_checksum_10 ?_
  refine lv_i2l E.1 E.2.1 dX7_checksum_11 rfl ?_
  refine lv_topl (fun x4 ex4 => ?_)
  have h := bnd_r ex4 h
  refine lv_lstore_n (lv' := [(1, .long x4), (0, .ref (G.2.2.2 + q0))]) E.1 E.2.1 dX7_checksum_12 rfl hl (by decide) rfl (fun ls hl => ?_)
  refine lv_iconst (v := (0 : Int32)) E.1 E.2.1 dX7_checksum_13 (by decide) ?_
  refine lv_istore_n (lv' := [(3, .int (0 : Int32)), (1, .long x4), (0, .ref (G.2.2.2 + q0))]) E.1 E.2.1 dX7_checksum_14 rfl hl (by decide) rfl (fun ls hl => ?_)
  refine L_X7_checksum_15 E hr hlk _ _ _ _ _ _ _ _ h hW (lv_sub hl [2, 1, 0] rfl)
