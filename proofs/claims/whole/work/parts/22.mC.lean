set_option maxHeartbeats 4000000 in
set_option maxRecDepth 100000 in
theorem L_X5_putWord_3 {p : Program} {l : Launch} {e : Env} {s : State} {m : MethodId} {args : Array Value} {below : List Frame} {meth : Method} {c : Code} {G : GP} {A0 : Nat → Prop} {σ0 : St} {r0 : Unit} (E : En p m c s cX5_putWord 3 yX5_putWord.cls G A0) (hr : meth.sig.returnType = none) (hlk : meth.locks = false) : ∀ (n5 : Nat) (q2 : Nat) (x3 : Int32) (x4 : Int32) (σ1 : St) (H : Heap) (locs : List Loc) (ls : Array Slot), f_X5_putWord_L3 n5 q2 x3 x4 σ1 = some (r0, σ0) → Wo G skC A0 s σ1 H locs → lv_has ls 3 [(0, .ref (G.2.2.2 + q2)), (1, .int x3), (2, .int x4)] → W p l e ({ frames := 0, cells := 0, slots := 0, locals := 0 } : Room) s m args below meth c H locs 0 0 (MQ below (QO (PoC G skC σ0) A0 none) args s 0 0 A0) (F0 m 3 ls []) := by
  intro n5
  induction n5 with
  | zero =>
    intro q2 x3 x4 σ1 H locs ls h hW hl
    rw [f_X5_putWord_L3] at h
    cases h
  | succ n5 ih =>
    intro q2 x3 x4 σ1 H locs ls h hW hl
    rw [f_X5_putWord_L3] at h
    refine lv_iload_n E.1 E.2.1 dX5_putWord_3 rfl (lv_at hl 2 rfl) ?_
    refine lv_if_lt (tgt := 56) E.1 E.2.1 dX5_putWord_4 (by decide) (fun g => ?_) (fun g => ?_)
    · have h := ifp h g
      exact e_v E hW hr hlk h dX5_putWord_56
    · have h := ifn h g
      refine lv_aload_n E.1 E.2.1 dX5_putWord_7 rfl (lv_at hl 0 rfl) ?_
      obtain ⟨g6, h⟩ := gd_r h
      refine gf_X5_21 E hW g6 dX5_putWord_8 ?_
      refine lv_if_lt (tgt := 50) E.1 E.2.1 dX5_putWord_11 (by decide) (fun g => ?_) (fun g => ?_)
      · have h := ifp h g
        obtain ⟨x7, ex7⟩ : ∃ y : Int32, y = x4 + (-8 : Int32) := ⟨_, rfl⟩
        have h := bnd_r ex7 h
        refine lv_iinc (v := x7) (lv' := [(2, .int x7), (0, .ref (G.2.2.2 + q2)), (1, .int x3)]) E.1 E.2.1 dX5_putWord_50 hl (k := 2) rfl (by rw [ex7]; rfl) (by decide) rfl (fun ls hl => ?_)
        refine lv_goto (tgt := 3) E.1 E.2.1 dX5_putWord_53 (by decide) ?_
        exact ih _ _ _ _ _ _ _ h hW (lv_sub hl [1, 2, 0] rfl)
      · have h := ifn h g
        refine lv_aload_n E.1 E.2.1 dX5_putWord_14 rfl (lv_at hl 0 rfl) ?_
        refine gf_X5_21 E hW g6 dX5_putWord_15 ?_
        refine lv_sipush (v := (700 : Int32)) E.1 E.2.1 dX5_putWord_18 (by decide) ?_
        refine lv_icmp_ge (tgt := 50) E.1 E.2.1 dX5_putWord_21 (by decide) (fun g => ?_) (fun g => ?_)
        · have h := ifp h g
          obtain ⟨x8, ex8⟩ : ∃ y : Int32, y = x4 + (-8 : Int32) := ⟨_, rfl⟩
          have h := bnd_r ex8 h
          refine lv_iinc (v := x8) (lv' := [(2, .int x8), (0, .ref (G.2.2.2 + q2)), (1, .int x3)]) E.1 E.2.1 dX5_putWord_50 hl (k := 2) rfl (by rw [ex8]; rfl) (by decide) rfl (fun ls hl => ?_)
          refine lv_goto (tgt := 3) E.1 E.2.1 dX5_putWord_53 (by decide) ?_
          exact ih _ _ _ _ _ _ _ h hW (lv_sub hl [1, 2, 0] rfl)
        · have h := ifn h g
          refine lv_aload_n E.1 E.2.1 dX5_putWord_24 rfl (lv_at hl 0 rfl) ?_
          refine gf_X5_9 E hW g6 dX5_putWord_25 ?_
          refine lv_aload_n E.1 E.2.1 dX5_putWord_28 rfl (lv_at hl 0 rfl) ?_
          refine gf_X5_21 E hW g6 dX5_putWord_29 ?_
          refine lv_iload_n E.1 E.2.1 dX5_putWord_32 rfl (lv_at hl 1 rfl) ?_
          refine lv_iload_n E.1 E.2.1 dX5_putWord_33 rfl (lv_at hl 2 rfl) ?_
          refine lv_iushr E.1 E.2.1 dX5_putWord_34 rfl ?_
          refine lv_sipush (v := (255 : Int32)) E.1 E.2.1 dX5_putWord_35 (by decide) ?_
          refine lv_iand E.1 E.2.1 dX5_putWord_38 ?_
          obtain ⟨g9, h⟩ := gd_r h
          refine r_iast E hW (pr_eq g9.1) g9.2 dX5_putWord_39 (fun σ10 H locs eσ10 hW => ?_)
          have h := bnd_r eσ10 h
          refine lv_aload_n E.1 E.2.1 dX5_putWord_40 rfl (lv_at hl 0 rfl) ?_
          refine lv_dup E.1 E.2.1 dX5_putWord_41 rfl ?_
          refine gf_X5_21 E hW g6 dX5_putWord_42 ?_
          refine lv_iconst (v := (1 : Int32)) E.1 E.2.1 dX5_putWord_45 (by decide) ?_
          refine lv_iadd E.1 E.2.1 dX5_putWord_46 ?_
          refine pf_X5_21 E hW g6 dX5_putWord_47 (fun σ11 H locs eσ11 hW => ?_)
          have h := bnd_r eσ11 h
          obtain ⟨x12, ex12⟩ : ∃ y : Int32, y = x4 + (-8 : Int32) := ⟨_, rfl⟩
          have h := bnd_r ex12 h
          refine lv_iinc (v := x12) (lv' := [(2, .int x12), (0, .ref (G.2.2.2 + q2)), (1, .int x3)]) E.1 E.2.1 dX5_putWord_50 hl (k := 2) rfl (by rw [ex12]; rfl) (by decide) rfl (fun ls hl => ?_)
          refine lv_goto (tgt := 3) E.1 E.2.1 dX5_putWord_53 (by decide) ?_
          exact ih _ _ _ _ _ _ _ h hW (lv_sub hl [1, 2, 0] rfl)
set_option maxHeartbeats 4000000 in
set_option maxRecDepth 100000 in
theorem m_X5_putWord {l : Launch} {G : GP} {sz : Nat} {q0 : Nat} {a1 : Int32} {σ σ0 : St} {r0 : Unit} (h : f_X5_putWord q0 a1 σ = some (r0, σ0)) : Met l yX5_putWord [.code yX5_putWord cX5_putWord 3 none] ({ frames := 0, cells := 0, slots := 0, locals := 0 } : Room) (va_Pc [.ref (G.2.2.2 + q0), .int a1] (PreC G skC sz σ)) (QO (PoC G skC σ0) (Aw G.2.2.2 skC.1 sz) none) 0 0 (Aw G.2.2.2 skC.1 sz) := by
  refine mkMet (by decide +kernel) (Nat.le_of_ble_eq_true rfl) skC_ok ?_
  intro p e s m below meth c ls E hW hl hr hlk
  have hl : lv_has ls 3 [(0, .ref (G.2.2.2 + q0)), (1, .int a1)] := hl
  generalize Aw G.2.2.2 skC.1 s.heap.size = A0 at E hW ⊢
  generalize ([.ref (G.2.2.2 + q0), .int a1] : List Value).toArray = args
  unfold f_X5_putWord at h
  refine lv_bipush (v := (24 : Int32)) E.1 E.2.1 dX5_putWord_0 (by decide) ?_
  refine lv_istore_n (lv' := [(2, .int (24 : Int32)), (0, .ref (G.2.2.2 + q0)), (1, .int a1)]) E.1 E.2.1 dX5_putWord_2 rfl hl (by decide) rfl (fun ls hl => ?_)
  refine L_X5_putWord_3 E hr hlk _ _ _ _ _ _ _ _ h hW (lv_sub hl [1, 2, 0] rfl)
set_option maxHeartbeats 4000000 in
set_option maxRecDepth 100000 in
theorem m_X6_append {l : Launch} {G : GP} {sz : Nat} {q0 : Nat} {a1 : Int32} {a2 : Int32} {a3 : Int32} {a4 : Int32} {a5 : Int32} {σ σ0 : St} {r0 : Int32} (h : f_X6_append q0 a1 a2 a3 a4 a5 σ = some (r0, σ0)) : Met l yX6_append [.code yX6_append cX6_append 7 (some .int)] ({ frames := 1, cells := 0, slots := 0, locals := 22 } : Room) (va_Pc [.ref (G.2.2.2 + q0), .int a1, .int a2, .int a3, .int a4, .int a5] (PreC G skC sz σ)) (QO (PoC G skC σ0) (Aw G.2.2.2 skC.1 sz) (some (.int r0))) 0 0 (Aw G.2.2.2 skC.1 sz) := by
  refine mkMet (by decide +kernel) (Nat.le_of_ble_eq_true rfl) skC_ok ?_
  intro p e s m below meth c ls E hW hl hr hlk
  have hl : lv_has ls 7 [(0, .ref (G.2.2.2 + q0)), (1, .int a1), (2, .int a2), (3, .int a3), (4, .int a4), (5, .int a5)] := hl
  generalize Aw G.2.2.2 skC.1 s.heap.size = A0 at E hW ⊢
  generalize ([.ref (G.2.2.2 + q0), .int a1, .int a2, .int a3, .int a4, .int a5] : List Value).toArray = args
  unfold f_X6_append at h
  refine lv_aload_n E.1 E.2.1 dX6_append_0 rfl (lv_at hl 0 rfl) ?_
  obtain ⟨g1, h⟩ := gd_r h
  refine gf_X6_33 E hW g1 dX6_append_1 ?_
  obtain ⟨g2, h⟩ := gd_r h
  refine gf_X6_48 E hW g2 dX6_append_4 ?_
  refine lv_astore (lv' := [(6, .ref (G.2.2.2 + (rC (rC q0 3) 0))), (0, .ref (G.2.2.2 + q0)), (1, .int a1), (2, .int a2), (3, .int a3), (4, .int a4), (5, .int a5)]) E.1 E.2.1 dX6_append_7 hl (by decide) rfl (fun ls hl => ?_)
  refine lv_aload E.1 E.2.1 dX6_append_9 (lv_at hl 0 rfl) ?_
  obtain ⟨g3, h⟩ := gd_r h
  refine gf_X6_52 E hW g3 dX6_append_11 ?_
  refine lv_sipush (v := (680 : Int32)) E.1 E.2.1 dX6_append_14 (by decide) ?_
  refine lv_icmp_le (tgt := 22) E.1 E.2.1 dX6_append_17 (by decide) (fun g => ?_) (fun g => ?_)
  · have h := ifp h g
    refine lv_aload E.1 E.2.1 dX6_append_22 (lv_at hl 0 rfl) ?_
    refine lv_iload_n E.1 E.2.1 dX6_append_24 rfl (lv_at hl 2 rfl) ?_
    obtain ⟨_r, σ4, c5, h⟩ := obn_r h
    refine c_V (As := [.int a1]) (rest := []) E hW (m_X5_putWord c5) g3 rfl kw_228 wv_X5_putWord yo_X5_putWord ⟨rfl, rfl⟩ ⟨(Nat.le_of_ble_eq_true rfl), (Nat.le_of_ble_eq_true rfl)⟩ (lv_size hl) (Nat.le_of_ble_eq_true rfl) ⟨(Nat.le_of_ble_eq_true rfl), (Nat.le_of_ble_eq_true rfl)⟩ rfl dX6_append_25 (fun H locs hW => ?_)
    refine W.eq (g2 := F0 m 28 ls []) rfl ?_
    refine lv_aload E.1 E.2.1 dX6_append_28 (lv_at hl 0 rfl) ?_
    refine lv_iload_n E.1 E.2.1 dX6_append_30 rfl (lv_at hl 3 rfl) ?_
    obtain ⟨_r, σ6, c7, h⟩ := obn_r h
    refine c_V (As := [.int a2]) (rest := []) E hW (m_X5_putWord c7) g3 rfl kw_228 wv_X5_putWord yo_X5_putWord ⟨rfl, rfl⟩ ⟨(Nat.le_of_ble_eq_true rfl), (Nat.le_of_ble_eq_true rfl)⟩ (lv_size hl) (Nat.le_of_ble_eq_true rfl) ⟨(Nat.le_of_ble_eq_true rfl), (Nat.le_of_ble_eq_true rfl)⟩ rfl dX6_append_31 (fun H locs hW => ?_)
    refine W.eq (g2 := F0 m 34 ls []) rfl ?_
    refine lv_aload E.1 E.2.1 dX6_append_34 (lv_at hl 0 rfl) ?_
    refine lv_iload_n E.1 E.2.1 dX6_append_36 rfl (lv_at hl 4 rfl) ?_
    obtain ⟨_r, σ8, c9, h⟩ := obn_r h
    refine c_V (As := [.int a3]) (rest := []) E hW (m_X5_putWord c9) g3 rfl kw_228 wv_X5_putWord yo_X5_putWord ⟨rfl, rfl⟩ ⟨(Nat.le_of_ble_eq_true rfl), (Nat.le_of_ble_eq_true rfl)⟩ (lv_size hl) (Nat.le_of_ble_eq_true rfl) ⟨(Nat.le_of_ble_eq_true rfl), (Nat.le_of_ble_eq_true rfl)⟩ rfl dX6_append_37 (fun H locs hW => ?_)
    refine W.eq (g2 := F0 m 40 ls []) rfl ?_
    refine lv_aload E.1 E.2.1 dX6_append_40 (lv_at hl 0 rfl) ?_
    refine lv_iload E.1 E.2.1 dX6_append_42 (lv_at hl 5 rfl) ?_
    obtain ⟨_r, σ10, c11, h⟩ := obn_r h
    refine c_V (As := [.int a4]) (rest := []) E hW (m_X5_putWord c11) g3 rfl kw_228 wv_X5_putWord yo_X5_putWord ⟨rfl, rfl⟩ ⟨(Nat.le_of_ble_eq_true rfl), (Nat.le_of_ble_eq_true rfl)⟩ (lv_size hl) (Nat.le_of_ble_eq_true rfl) ⟨(Nat.le_of_ble_eq_true rfl), (Nat.le_of_ble_eq_true rfl)⟩ rfl dX6_append_44 (fun H locs hW => ?_)
    refine W.eq (g2 := F0 m 47 ls []) rfl ?_
    refine lv_aload E.1 E.2.1 dX6_append_47 (lv_at hl 0 rfl) ?_
    refine lv_iload E.1 E.2.1 dX6_append_49 (lv_at hl 6 rfl) ?_
    obtain ⟨_r, σ12, c13, h⟩ := obn_r h
    refine c_V (As := [.int a5]) (rest := []) E hW (m_X5_putWord c13) g3 rfl kw_228 wv_X5_putWord yo_X5_putWord ⟨rfl, rfl⟩ ⟨(Nat.le_of_ble_eq_true rfl), (Nat.le_of_ble_eq_true rfl)⟩ (lv_size hl) (Nat.le_of_ble_eq_true rfl) ⟨(Nat.le_of_ble_eq_true rfl), (Nat.le_of_ble_eq_true rfl)⟩ rfl dX6_append_51 (fun H locs hW => ?_)
    refine W.eq (g2 := F0 m 54 ls []) rfl ?_
    refine lv_aload E.1 E.2.1 dX6_append_54 (lv_at hl 0 rfl) ?_
    refine gf_X6_52 E hW g3 dX6_append_56 ?_
    exact e_i E hW hr hlk h dX6_append_59
  · have h := ifn h g
    refine lv_iconst (v := (-1 : Int32)) E.1 E.2.1 dX6_append_20 (by decide) ?_
    exact e_i E hW hr hlk h dX6_append_21
set_option maxHeartbeats 4000000 in
set_option maxRecDepth 100000 in
theorem m_X6_load {l : Launch} {G : GP} {sz : Nat} {q0 : Nat} {a1 : Int32} {σ σ0 : St} {r0 : (Nat ⊕ Int32)} (hl9 : l.stackTraces = false) (h : f_X6_load q0 a1 σ = some (r0, σ0)) : vx_Met l yX6_load [.code yX6_load cX6_load 3 (some .int)] ({ frames := 74, cells := 1, slots := 6, locals := 2192 } : Room) (va_Pc [.ref (G.2.2.2 + q0), .int a1] (PreC G skC sz σ)) (QX (PoC G skC σ0) (Aw G.2.2.2 skC.1 sz) (rvI r0)) (XX (PoC G skC σ0) (Aw G.2.2.2 skC.1 sz) (rvI r0)) 1 6 (Aw G.2.2.2 skC.1 sz) := by
  refine mkMetX (by decide +kernel) (Nat.le_of_ble_eq_true rfl) skC_ok ?_
  intro p e s m below meth c ls E hW hl hr hlk ht
  have hl : lv_has ls 3 [(0, .ref (G.2.2.2 + q0)), (1, .int a1)] := hl
  generalize Aw G.2.2.2 skC.1 s.heap.size = A0 at E hW ⊢
  generalize ([.ref (G.2.2.2 + q0), .int a1] : List Value).toArray = args
  unfold f_X6_load at h
  refine lv_iload_n E.1 E.2.1 dX6_load_0 rfl (lv_at hl 1 rfl) ?_
  obtain ⟨J2, eJ2, h⟩ := bnd_x h
  have hJ2 : ∀ (σ1 : St) (H : Heap) (locs : List Loc) (ls : Array Slot), J2 σ1 = some (r0, σ0) → Wo G skC A0 s σ1 H locs → lv_has ls 3 [] → W p l e ({ frames := 74, cells := 1, slots := 6, locals := 2192 } : Room) s m args below meth c H locs 0 0 (vx_MQ below (QX (PoC G skC σ0) A0 (rvI r0)) (XX (PoC G skC σ0) A0 (rvI r0)) args s 1 6 A0) (F0 m 18 ls []) := by
    intro σ1 H locs ls h hW hl
    have h := jr1 eJ2 h
    exact x_throw E hW hl9 10 3 (by decide) ⟨rfl, rfl⟩ (by decide +kernel) kw_280 kw_12 tx_X6_65 ht hlk (x_inI h) (some_r h).2 (Nat.le_of_ble_eq_true rfl) (Nat.le_of_ble_eq_true rfl) (Nat.le_of_ble_eq_true rfl) (Nat.le_of_ble_eq_true rfl) (Nat.le_of_ble_eq_true rfl) (Nat.le_of_ble_eq_true rfl) (lv_size hl) dX6_load_18 dX6_load_21 dX6_load_22 dX6_load_24 dX6_load_27
  refine lv_if_lt (tgt := 18) E.1 E.2.1 dX6_load_1 (by decide) (fun g => ?_) (fun g => ?_)
  · have h := ifp h g
    exact hJ2 _ _ _ _ h hW (lv_sub hl [] rfl)
  · have h := ifn h g
    refine lv_iload_n E.1 E.2.1 dX6_load_4 rfl (lv_at hl 1 rfl) ?_
    refine lv_aload_n E.1 E.2.1 dX6_load_5 rfl (lv_at hl 0 rfl) ?_
    obtain ⟨g3, h⟩ := gd_r h
    refine gf_X6_33 E hW g3 dX6_load_6 ?_
    obtain ⟨g4, h⟩ := gd_r h
    refine gf_X6_48 E hW g4 dX6_load_9 ?_
    obtain ⟨g5, h⟩ := gd_r h
    refine gf_X6_52 E hW g5 dX6_load_12 ?_
    refine lv_icmp_le (tgt := 28) E.1 E.2.1 dX6_load_15 (by decide) (fun g => ?_) (fun g => ?_)
    · have h := ifp h g
      refine lv_aload_n E.1 E.2.1 dX6_load_28 rfl (lv_at hl 0 rfl) ?_
      refine gf_X6_33 E hW g3 dX6_load_29 ?_
      refine lv_iload_n E.1 E.2.1 dX6_load_32 rfl (lv_at hl 1 rfl) ?_
      obtain ⟨x7, σ6, c8, h⟩ := obn_r h
      refine c_V (As := [.int a1]) (rest := []) E hW (m_X4_readSetup c8) g4 rfl kw_349 wv_X4_readSetup yo_X4_readSetup ⟨rfl, rfl⟩ ⟨(Nat.le_of_ble_eq_true rfl), (Nat.le_of_ble_eq_true rfl)⟩ (lv_size hl) (Nat.le_of_ble_eq_true rfl) ⟨(Nat.le_of_ble_eq_true rfl), (Nat.le_of_ble_eq_true rfl)⟩ rfl dX6_load_33 (fun H locs hW => ?_)
      refine W.eq (g2 := F0 m 36 ls [.int x7]) rfl ?_
      refine lv_istore_n (lv' := [(2, .int x7), (0, .ref (G.2.2.2 + q0)), (1, .int a1)]) E.1 E.2.1 dX6_load_36 rfl hl (by decide) rfl (fun ls hl => ?_)
      refine lv_aload_n E.1 E.2.1 dX6_load_37 rfl (lv_at hl 1 rfl) ?_
      refine gf_X6_33 E hW g3 dX6_load_38 ?_
      refine gf_X6_48 E hW g4 dX6_load_41 ?_
      refine lv_iconst (v := (0 : Int32)) E.1 E.2.1 dX6_load_44 (by decide) ?_
      refine pf_X6_52 E hW g5 dX6_load_45 (fun σ9 H locs eσ9 hW => ?_)
      have h := bnd_r eσ9 h
      refine lv_iload_n E.1 E.2.1 dX6_load_48 rfl (lv_at hl 0 rfl) ?_
      refine lv_if_ne (tgt := 74) E.1 E.2.1 dX6_load_49 (by decide) (fun g => ?_) (fun g => ?_)
      · have h := ifn h g
        refine lv_aload_n E.1 E.2.1 dX6_load_74 rfl (lv_at hl 1 rfl) ?_
        refine lv_iconst (v := (-1 : Int32)) E.1 E.2.1 dX6_load_75 (by decide) ?_
        refine pf_X6_44 E hW g3 dX6_load_76 (fun σ10 H locs eσ10 hW => ?_)
        have h := bnd_r eσ10 h
        refine lv_aload_n E.1 E.2.1 dX6_load_79 rfl (lv_at hl 1 rfl) ?_
        refine gf_X6_19 E hW g3 dX6_load_80 ?_
        refine lv_aload_n E.1 E.2.1 dX6_load_83 rfl (lv_at hl 1 rfl) ?_
        refine gf_X6_10 E hW g3 dX6_load_84 ?_
        obtain ⟨g11, h⟩ := gd_r h
        obtain ⟨_r, σ12, c13, h⟩ := obn_r h
        refine c_V (As := [.ref (G.2.2.2 + (rC q0 0))]) (rest := []) E hW (m_X1_remember c13) g11 rfl kw_616 wv_X1_remember yo_X1_remember ⟨rfl, rfl⟩ ⟨(Nat.le_of_ble_eq_true rfl), (Nat.le_of_ble_eq_true rfl)⟩ (lv_size hl) (Nat.le_of_ble_eq_true rfl) ⟨(Nat.le_of_ble_eq_true rfl), (Nat.le_of_ble_eq_true rfl)⟩ rfl dX6_load_87 (fun H locs hW => ?_)
        refine W.eq (g2 := F0 m 90 ls []) rfl ?_
        refine lv_aload_n E.1 E.2.1 dX6_load_90 rfl (lv_at hl 1 rfl) ?_
        refine gf_X6_10 E hW g3 dX6_load_91 ?_
        refine lv_aload_n E.1 E.2.1 dX6_load_94 rfl (lv_at hl 1 rfl) ?_
        refine gf_X6_33 E hW g3 dX6_load_95 ?_
        refine gf_X6_82 E hW g4 dX6_load_98 ?_
        obtain ⟨g14, h⟩ := gd_r h
        obtain ⟨_r, σ15, c16, h⟩ := obn_r h
        refine c_V (As := [.ref (G.2.2.2 + (rC (rC q0 3) 1))]) (rest := []) E hW (m_X3_copyFrom c16) g14 rfl kw_621 wv_X3_copyFrom yo_X3_copyFrom ⟨rfl, rfl⟩ ⟨(Nat.le_of_ble_eq_true rfl), (Nat.le_of_ble_eq_true rfl)⟩ (lv_size hl) (Nat.le_of_ble_eq_true rfl) ⟨(Nat.le_of_ble_eq_true rfl), (Nat.le_of_ble_eq_true rfl)⟩ rfl dX6_load_101 (fun H locs hW => ?_)
        refine W.eq (g2 := F0 m 104 ls []) rfl ?_
        refine lv_aload_n E.1 E.2.1 dX6_load_104 rfl (lv_at hl 1 rfl) ?_
        refine gf_X6_10 E hW g3 dX6_load_105 ?_
        obtain ⟨x18, σ17, c19, h⟩ := obn_r h
        refine c_V (As := []) (rest := []) E hW (m_X3_count c19) g14 rfl kw_622 wv_X3_count yo_X3_count ⟨rfl, rfl⟩ ⟨(Nat.le_of_ble_eq_true rfl), (Nat.le_of_ble_eq_true rfl)⟩ (lv_size hl) (Nat.le_of_ble_eq_true rfl) ⟨(Nat.le_of_ble_eq_true rfl), (Nat.le_of_ble_eq_true rfl)⟩ rfl dX6_load_108 (fun H locs hW => ?_)
        refine W.eq (g2 := F0 m 111 ls [.int x18]) rfl ?_
        exact x_i E hW hr hlk h (Nat.le_of_ble_eq_true rfl) (Nat.le_of_ble_eq_true rfl) dX6_load_111
      · have h := ifp h g
        refine lv_aload_n E.1 E.2.1 dX6_load_52 rfl (lv_at hl 1 rfl) ?_
        refine lv_aload_n E.1 E.2.1 dX6_load_53 rfl (lv_at hl 1 rfl) ?_
        refine gf_X6_33 E hW g3 dX6_load_54 ?_
        refine gf_X6_48 E hW g4 dX6_load_57 ?_
        refine gf_X6_72 E hW g5 dX6_load_60 ?_
        refine pf_X6_44 E hW g3 dX6_load_63 (fun σ20 H locs eσ20 hW => ?_)
        have h := bnd_r eσ20 h
        refine lv_aload_n E.1 E.2.1 dX6_load_66 rfl (lv_at hl 1 rfl) ?_
        refine gf_X6_33 E hW g3 dX6_load_67 ?_
        refine gf_X6_75 E hW g4 dX6_load_70 ?_
        exact x_i E hW hr hlk h (Nat.le_of_ble_eq_true rfl) (Nat.le_of_ble_eq_true rfl) dX6_load_73
    · have h := ifn h g
      exact hJ2 _ _ _ _ h hW (lv_sub hl [] rfl)
set_option maxHeartbeats 4000000 in
set_option maxRecDepth 100000 in
theorem m_X6_errorOffset {l : Launch} {G : GP} {sz : Nat} {q0 : Nat} {σ σ0 : St} {r0 : Int32} (h : f_X6_errorOffset q0 σ = some (r0, σ0)) : Met l yX6_errorOffset [.code yX6_errorOffset cX6_errorOffset 1 (some .int)] ({ frames := 0, cells := 0, slots := 0, locals := 0 } : Room) (va_Pc [.ref (G.2.2.2 + q0)] (PreC G skC sz σ)) (QO (PoC G skC σ0) (Aw G.2.2.2 skC.1 sz) (some (.int r0))) 0 0 (Aw G.2.2.2 skC.1 sz) := by
  refine mkMet (by decide +kernel) (Nat.le_of_ble_eq_true rfl) skC_ok ?_
  intro p e s m below meth c ls E hW hl hr hlk
  have hl : lv_has ls 1 [(0, .ref (G.2.2.2 + q0))] := hl
  generalize Aw G.2.2.2 skC.1 s.heap.size = A0 at E hW ⊢
  generalize ([.ref (G.2.2.2 + q0)] : List Value).toArray = args
  unfold f_X6_errorOffset at h
  refine lv_aload_n E.1 E.2.1 dX6_errorOffset_0 rfl (lv_at hl 0 rfl) ?_
  obtain ⟨g1, h⟩ := gd_r h
  refine gf_X6_44 E hW g1 dX6_errorOffset_1 ?_
  exact e_i E hW hr hlk h dX6_errorOffset_4
set_option maxHeartbeats 4000000 in
set_option maxRecDepth 100000 in
theorem m_X6_defined {l : Launch} {G : GP} {sz : Nat} {q0 : Nat} {σ σ0 : St} {r0 : Int32} (h : f_X6_defined q0 σ = some (r0, σ0)) : Met l yX6_defined [.code yX6_defined cX6_defined 1 (some .int)] ({ frames := 0, cells := 0, slots := 0, locals := 0 } : Room) (va_Pc [.ref (G.2.2.2 + q0)] (PreC G skC sz σ)) (QO (PoC G skC σ0) (Aw G.2.2.2 skC.1 sz) (some (.int r0))) 0 0 (Aw G.2.2.2 skC.1 sz) := by
  refine mkMet (by decide +kernel) (Nat.le_of_ble_eq_true rfl) skC_ok ?_
  intro p e s m below meth c ls E hW hl hr hlk
  have hl : lv_has ls 1 [(0, .ref (G.2.2.2 + q0))] := hl
  generalize Aw G.2.2.2 skC.1 s.heap.size = A0 at E hW ⊢
  generalize ([.ref (G.2.2.2 + q0)] : List Value).toArray = args
  unfold f_X6_defined at h
  refine lv_aload_n E.1 E.2.1 dX6_defined_0 rfl (lv_at hl 0 rfl) ?_
  obtain ⟨g1, h⟩ := gd_r h
  refine gf_X6_10 E hW g1 dX6_defined_1 ?_
  obtain ⟨g2, h⟩ := gd_r h
  refine gf_X6_92 E hW g2 dX6_defined_4 ?_
  exact e_i E hW hr hlk h dX6_defined_7
set_option maxHeartbeats 4000000 in
set_option maxRecDepth 100000 in
theorem m_X6_requireIndex {l : Launch} {G : GP} {sz : Nat} {a0 : Int32} {σ σ0 : St} {r0 : (Nat ⊕ Unit)} (hl9 : l.stackTraces = false) (h : f_X6_requireIndex a0 σ = some (r0, σ0)) : vx_Met l yX6_requireIndex [.code yX6_requireIndex cX6_requireIndex 1 none] ({ frames := 6, cells := 1, slots := 6, locals := 100 } : Room) (va_Pc [.int a0] (PreC G skC sz σ)) (QX (PoC G skC σ0) (Aw G.2.2.2 skC.1 sz) (rvV r0)) (XX (PoC G skC σ0) (Aw G.2.2.2 skC.1 sz) (rvV r0)) 1 6 (Aw G.2.2.2 skC.1 sz) := by
  refine mkMetX (by decide +kernel) (Nat.le_of_ble_eq_true rfl) skC_ok ?_
  intro p e s m below meth c ls E hW hl hr hlk ht
  have hl : lv_has ls 1 [(0, .int a0)] := hl
  generalize Aw G.2.2.2 skC.1 s.heap.size = A0 at E hW ⊢
  generalize ([.int a0] : List Value).toArray = args
  unfold f_X6_requireIndex at h
  refine lv_iload_n E.1 E.2.1 dX6_requireIndex_0 rfl (lv_at hl 0 rfl) ?_
  obtain ⟨J2, eJ2, h⟩ := bnd_x h
  have hJ2 : ∀ (σ1 : St) (H : Heap) (locs : List Loc) (ls : Array Slot), J2 σ1 = some (r0, σ0) → Wo G skC A0 s σ1 H locs → lv_has ls 1 [] → W p l e ({ frames := 6, cells := 1, slots := 6, locals := 100 } : Room) s m args below meth c H locs 0 0 (vx_MQ below (QX (PoC G skC σ0) A0 (rvV r0)) (XX (PoC G skC σ0) A0 (rvV r0)) args s 1 6 A0) (F0 m 10 ls []) := by
    intro σ1 H locs ls h hW hl
    have h := jr1 eJ2 h
    exact x_throw E hW hl9 11 1 (by decide) ⟨rfl, rfl⟩ (by decide +kernel) kw_644 kw_21 tx_X6_236 ht hlk (x_inV h) (some_r h).2 (Nat.le_of_ble_eq_true rfl) (Nat.le_of_ble_eq_true rfl) (Nat.le_of_ble_eq_true rfl) (Nat.le_of_ble_eq_true rfl) (Nat.le_of_ble_eq_true rfl) (Nat.le_of_ble_eq_true rfl) (lv_size hl) dX6_requireIndex_10 dX6_requireIndex_13 dX6_requireIndex_14 dX6_requireIndex_16 dX6_requireIndex_19
  refine lv_if_lt (tgt := 10) E.1 E.2.1 dX6_requireIndex_1 (by decide) (fun g => ?_) (fun g => ?_)
  · have h := ifp h g
    exact hJ2 _ _ _ _ h hW (lv_sub hl [] rfl)
  · have h := ifn h g
    refine lv_iload_n E.1 E.2.1 dX6_requireIndex_4 rfl (lv_at hl 0 rfl) ?_
    refine lv_bipush (v := (8 : Int32)) E.1 E.2.1 dX6_requireIndex_5 (by decide) ?_
    refine lv_icmp_lt (tgt := 20) E.1 E.2.1 dX6_requireIndex_7 (by decide) (fun g => ?_) (fun g => ?_)
    · have h := ifp h g
      exact x_v E hW hr hlk h (Nat.le_of_ble_eq_true rfl) (Nat.le_of_ble_eq_true rfl) dX6_requireIndex_20
    · have h := ifn h g
      exact hJ2 _ _ _ _ h hW (lv_sub hl [] rfl)
set_option maxHeartbeats 4000000 in
set_option maxRecDepth 100000 in
theorem m_X6_requireDefined {l : Launch} {G : GP} {sz : Nat} {q0 : Nat} {a1 : Int32} {σ σ0 : St} {r0 : (Nat ⊕ Nat)} (hl9 : l.stackTraces = false) (h : f_X6_requireDefined q0 a1 σ = some (r0, σ0)) : vx_Met l yX6_requireDefined [.code yX6_requireDefined cX6_requireDefined 2 (some (.object "TaylorModels$Model"))] ({ frames := 6, cells := 1, slots := 6, locals := 100 } : Room) (va_Pc [.ref (G.2.2.2 + q0), .int a1] (PreC G skC sz σ)) (QX (PoC G skC σ0) (Aw G.2.2.2 skC.1 sz) (rvR G.2.2.2 r0)) (XX (PoC G skC σ0) (Aw G.2.2.2 skC.1 sz) (rvR G.2.2.2 r0)) 1 6 (Aw G.2.2.2 skC.1 sz) := by
  refine mkMetX (by decide +kernel) (Nat.le_of_ble_eq_true rfl) skC_ok ?_
  intro p e s m below meth c ls E hW hl hr hlk ht
  have hl : lv_has ls 2 [(0, .ref (G.2.2.2 + q0)), (1, .int a1)] := hl
  generalize Aw G.2.2.2 skC.1 s.heap.size = A0 at E hW ⊢
  generalize ([.ref (G.2.2.2 + q0), .int a1] : List Value).toArray = args
  unfold f_X6_requireDefined at h
  refine lv_aload_n E.1 E.2.1 dX6_requireDefined_0 rfl (lv_at hl 0 rfl) ?_
  obtain ⟨g1, h⟩ := gd_r h
  refine gf_X6_10 E hW g1 dX6_requireDefined_1 ?_
  refine lv_iload_n E.1 E.2.1 dX6_requireDefined_4 rfl (lv_at hl 1 rfl) ?_
  obtain ⟨g2, h⟩ := gd_r h
  obtain ⟨x4, σ3, c5, h⟩ := obn_r h
  refine c_V (As := [.int a1]) (rest := []) E hW (m_X3_has c5) g2 rfl kw_263 wv_X3_has yo_X3_has ⟨rfl, rfl⟩ ⟨(Nat.le_of_ble_eq_true rfl), (Nat.le_of_ble_eq_true rfl)⟩ (lv_size hl) (Nat.le_of_ble_eq_true rfl) ⟨(Nat.le_of_ble_eq_true rfl), (Nat.le_of_ble_eq_true rfl)⟩ rfl dX6_requireDefined_5 (fun H locs hW => ?_)
  refine W.eq (g2 := F0 m 8 ls [.int x4]) rfl ?_
  refine lv_if_ne (tgt := 21) E.1 E.2.1 dX6_requireDefined_8 (by decide) (fun g => ?_) (fun g => ?_)
  · have h := ifn h g
    refine lv_aload_n E.1 E.2.1 dX6_requireDefined_21 rfl (lv_at hl 0 rfl) ?_
    refine gf_X6_10 E hW g1 dX6_requireDefined_22 ?_
    refine gf_X6_224 E hW g2 dX6_requireDefined_25 ?_
    refine lv_iload_n E.1 E.2.1 dX6_requireDefined_28 rfl (lv_at hl 1 rfl) ?_
    obtain ⟨g6, h⟩ := gd_r h
    refine r_aald (t := 0) (ty := .object "TaylorModels$Model") E hW (pr_eq g6.1) g6.2 rfl rfl (by decide) dX6_requireDefined_29 ?_
    exact x_r E hW hr hlk h (Nat.le_of_ble_eq_true rfl) (Nat.le_of_ble_eq_true rfl) dX6_requireDefined_30
  · have h := ifp h g
    exact x_throwN E hW hl9 12 2 (ix := 13) (rx := prog_28_method_4_code) (by decide +kernel) (by decide +kernel) (by decide +kernel) (by decide +kernel) (by decide) ⟨rfl, rfl⟩ (by decide +kernel) kw_664 kw_22 tx_X6_241 ht hlk (x_inR h) (some_r h).2 (Nat.le_of_ble_eq_true rfl) (Nat.le_of_ble_eq_true rfl) (Nat.le_of_ble_eq_true rfl) (Nat.le_of_ble_eq_true rfl) (Nat.le_of_ble_eq_true rfl) (Nat.le_of_ble_eq_true rfl) (lv_size hl) dX6_requireDefined_11 dX6_requireDefined_14 dX6_requireDefined_15 dX6_requireDefined_17 dX6_requireDefined_20
set_option maxHeartbeats 4000000 in
set_option maxRecDepth 100000 in
theorem m_X6_requireSlot {l : Launch} {G : GP} {sz : Nat} {a0 : Int32} {a1 : Int32} {σ σ0 : St} {r0 : (Nat ⊕ Int32)} (hl9 : l.stackTraces = false) (h : f_X6_requireSlot a0 a1 σ = some (r0, σ0)) : vx_Met l yX6_requireSlot [.code yX6_requireSlot cX6_requireSlot 3 (some .int)] ({ frames := 6, cells := 1, slots := 6, locals := 100 } : Room) (va_Pc [.int a0, .int a1] (PreC G skC sz σ)) (QX (PoC G skC σ0) (Aw G.2.2.2 skC.1 sz) (rvI r0)) (XX (PoC G skC σ0) (Aw G.2.2.2 skC.1 sz) (rvI r0)) 1 6 (Aw G.2.2.2 skC.1 sz) := by
  refine mkMetX (by decide +kernel) (Nat.le_of_ble_eq_true rfl) skC_ok ?_
  intro p e s m below meth c ls E hW hl hr hlk ht
  have hl : lv_has ls 3 [(0, .int a0), (1, .int a1)] := hl
  generalize Aw G.2.2.2 skC.1 s.heap.size = A0 at E hW ⊢
  generalize ([.int a0, .int a1] : List Value).toArray = args
  unfold f_X6_requireSlot at h
  refine lv_iload_n E.1 E.2.1 dX6_requireSlot_0 rfl (lv_at hl 0 rfl) ?_
  refine lv_iload_n E.1 E.2.1 dX6_requireSlot_1 rfl (lv_at hl 1 rfl) ?_
  obtain ⟨x2, σ1, c3, h⟩ := obn_r h
  refine c_S (As := [.int a0, .int a1]) (rest := []) E hW (m_X6_slotOf c3) kw_683 ws_X6_slotOf yo_X6_slotOf ⟨rfl, rfl⟩ ⟨(Nat.le_of_ble_eq_true rfl), (Nat.le_of_ble_eq_true rfl)⟩ (lv_size hl) (Nat.le_of_ble_eq_true rfl) ⟨(Nat.le_of_ble_eq_true rfl), (Nat.le_of_ble_eq_true rfl)⟩ rfl dX6_requireSlot_2 (fun H locs hW => ?_)
  refine W.eq (g2 := F0 m 5 ls [.int x2]) rfl ?_
  refine lv_istore_n (lv' := [(2, .int x2), (0, .int a0), (1, .int a1)]) E.1 E.2.1 dX6_requireSlot_5 rfl hl (by decide) rfl (fun ls hl => ?_)
  refine lv_iload_n E.1 E.2.1 dX6_requireSlot_6 rfl (lv_at hl 0 rfl) ?_
  refine lv_if_ge (tgt := 20) E.1 E.2.1 dX6_requireSlot_7 (by decide) (fun g => ?_) (fun g => ?_)
  · have h := ifp h g
    refine lv_iload_n E.1 E.2.1 dX6_requireSlot_20 rfl (lv_at hl 0 rfl) ?_
    exact x_i E hW hr hlk h (Nat.le_of_ble_eq_true rfl) (Nat.le_of_ble_eq_true rfl) dX6_requireSlot_21
  · have h := ifn h g
    exact x_throw E hW hl9 13 3 (by decide) ⟨rfl, rfl⟩ (by decide +kernel) kw_280 kw_12 tx_X6_65 ht hlk (x_inI h) (some_r h).2 (Nat.le_of_ble_eq_true rfl) (Nat.le_of_ble_eq_true rfl) (Nat.le_of_ble_eq_true rfl) (Nat.le_of_ble_eq_true rfl) (Nat.le_of_ble_eq_true rfl) (Nat.le_of_ble_eq_true rfl) (lv_size hl) dX6_requireSlot_10 dX6_requireSlot_13 dX6_requireSlot_14 dX6_requireSlot_16 dX6_requireSlot_19
set_option maxHeartbeats 4000000 in
set_option maxRecDepth 100000 in
theorem m_X6_coefficient {l : Launch} {G : GP} {sz : Nat} {q0 : Nat} {a1 : Int32} {a2 : Int32} {a3 : Int32} {σ σ0 : St} {r0 : (Nat ⊕ Int32)} (hl9 : l.stackTraces = false) (h : f_X6_coefficient q0 a1 a2 a3 σ = some (r0, σ0)) : vx_Met l yX6_coefficient [.code yX6_coefficient cX6_coefficient 5 (some .int)] ({ frames := 7, cells := 3, slots := 18, locals := 122 } : Room) (va_Pc [.ref (G.2.2.2 + q0), .int a1, .int a2, .int a3] (PreC G skC sz σ)) (QX (PoC G skC σ0) (Aw G.2.2.2 skC.1 sz) (rvI r0)) (XX (PoC G skC σ0) (Aw G.2.2.2 skC.1 sz) (rvI r0)) 3 18 (Aw G.2.2.2 skC.1 sz) := by
  refine mkMetX (by decide +kernel) (Nat.le_of_ble_eq_true rfl) skC_ok ?_
  intro p e s m below meth c ls E hW hl hr hlk ht
  have hl : lv_has ls 5 [(0, .ref (G.2.2.2 + q0)), (1, .int a1), (2, .int a2), (3, .int a3)] := hl
  generalize Aw G.2.2.2 skC.1 s.heap.size = A0 at E hW ⊢
  generalize ([.ref (G.2.2.2 + q0), .int a1, .int a2, .int a3] : List Value).toArray = args
  unfold f_X6_coefficient at h
  refine lv_iload_n E.1 E.2.1 dX6_coefficient_0 rfl (lv_at hl 1 rfl) ?_
  obtain ⟨r3, σ1, c2, hE, hN⟩ := obx_r2 h
  refine c_SX (As := [.int a1]) (rest := []) E hW (m_X6_requireIndex hl9 c2) kw_641 ws_X6_requireIndex yo_X6_requireIndex ⟨rfl, rfl⟩ ⟨(Nat.le_of_ble_eq_true rfl), (Nat.le_of_ble_eq_true rfl)⟩ (lv_size hl) (Nat.le_of_ble_eq_true rfl) ⟨(Nat.le_of_ble_eq_true rfl), (Nat.le_of_ble_eq_true rfl)⟩ rfl dX6_coefficient_1 (fun ex ce q9 H locs hrv hW h1 h2 h3 => ?_) (fun v9 H locs hrv hW => ?_)
  · exact x_outI hW ht hlk h1 h2 h3 (hE ex (rvV_inl hrv)) (Nat.le_of_ble_eq_true rfl) (Nat.le_of_ble_eq_true rfl)
  obtain ⟨-, qv, h⟩ := rvV_inr hrv hN
  subst qv
  refine W.eq (g2 := F0 m 4 ls []) rfl ?_
  refine lv_aload_n E.1 E.2.1 dX6_coefficient_4 rfl (lv_at hl 0 rfl) ?_
  refine lv_iload_n E.1 E.2.1 dX6_coefficient_5 rfl (lv_at hl 1 rfl) ?_
  obtain ⟨g4, h⟩ := gd_r h
  obtain ⟨r8, σ5, c7, hE, hN⟩ := obx_r2 h
  refine c_VX (As := [.int a1]) (rest := []) E hW (m_X6_requireDefined hl9 c7) g4 rfl kw_660 wv_X6_requireDefined yo_X6_requireDefined ⟨rfl, rfl⟩ ⟨(Nat.le_of_ble_eq_true rfl), (Nat.le_of_ble_eq_true rfl)⟩ (lv_size hl) (Nat.le_of_ble_eq_true rfl) ⟨(Nat.le_of_ble_eq_true rfl), (Nat.le_of_ble_eq_true rfl)⟩ rfl dX6_coefficient_6 (fun ex ce q9 H locs hrv hW h1 h2 h3 => ?_) (fun v9 H locs hrv hW => ?_)
  · exact x_outI hW ht hlk h1 h2 h3 (hE ex (rvR_inl hrv)) (Nat.le_of_ble_eq_true rfl) (Nat.le_of_ble_eq_true rfl)
  obtain ⟨q6, qv, h⟩ := rvR_inr hrv hN
  subst qv
  refine W.eq (g2 := F0 m 9 ls [.ref (G.2.2.2 + q6)]) rfl ?_
  refine lv_astore (lv' := [(4, .ref (G.2.2.2 + q6)), (0, .ref (G.2.2.2 + q0)), (1, .int a1), (2, .int a2), (3, .int a3)]) E.1 E.2.1 dX6_coefficient_9 hl (by decide) rfl (fun ls hl => ?_)
  refine lv_aload E.1 E.2.1 dX6_coefficient_11 (lv_at hl 0 rfl) ?_
  refine lv_iload_n E.1 E.2.1 dX6_coefficient_13 rfl (lv_at hl 3 rfl) ?_
  refine lv_iload_n E.1 E.2.1 dX6_coefficient_14 rfl (lv_at hl 4 rfl) ?_
  obtain ⟨r12, σ9, c11, hE, hN⟩ := obx_r2 h
  refine c_SX (As := [.int a2, .int a3]) (rest := [.ref (G.2.2.2 + q6)]) E hW (m_X6_requireSlot hl9 c11) kw_680 ws_X6_requireSlot yo_X6_requireSlot ⟨rfl, rfl⟩ ⟨(Nat.le_of_ble_eq_true rfl), (Nat.le_of_ble_eq_true rfl)⟩ (lv_size hl) (Nat.le_of_ble_eq_true rfl) ⟨(Nat.le_of_ble_eq_true rfl), (Nat.le_of_ble_eq_true rfl)⟩ rfl dX6_coefficient_15 (fun ex ce q9 H locs hrv hW h1 h2 h3 => ?_) (fun v9 H locs hrv hW => ?_)
  · exact x_outI hW ht hlk h1 h2 h3 (hE ex (rvI_inl hrv)) (Nat.le_of_ble_eq_true rfl) (Nat.le_of_ble_eq_true rfl)
  obtain ⟨x10, qv, h⟩ := rvI_inr hrv hN
  subst qv
  refine W.eq (g2 := F0 m 18 ls [.int x10, .ref (G.2.2.2 + q6)]) rfl ?_
  obtain ⟨g13, h⟩ := gd_r h
  obtain ⟨x15, σ14, c16, h⟩ := obn_r h
  refine c_V (As := [.int x10]) (rest := []) E hW (m_X2_coefficientAt c16) g13 rfl kw_685 wv_X2_coefficientAt yo_X2_coefficientAt ⟨rfl, rfl⟩ ⟨(Nat.le_of_ble_eq_true rfl), (Nat.le_of_ble_eq_true rfl)⟩ (lv_size hl) (Nat.le_of_ble_eq_true rfl) ⟨(Nat.le_of_ble_eq_true rfl), (Nat.le_of_ble_eq_true rfl)⟩ rfl dX6_coefficient_18 (fun H locs hW => ?_)
  refine W.eq (g2 := F0 m 21 ls [.long x15]) rfl ?_
  refine lv_l2i E.1 E.2.1 dX6_coefficient_21 rfl ?_
  exact x_i E hW hr hlk h (Nat.le_of_ble_eq_true rfl) (Nat.le_of_ble_eq_true rfl) dX6_coefficient_22
set_option maxHeartbeats 4000000 in
set_option maxRecDepth 100000 in
theorem m_X6_requireZeroOrOne {l : Launch} {G : GP} {sz : Nat} {a0 : Int32} {σ σ0 : St} {r0 : (Nat ⊕ Unit)} (hl9 : l.stackTraces = false) (h : f_X6_requireZeroOrOne a0 σ = some (r0, σ0)) : vx_Met l yX6_requireZeroOrOne [.code yX6_requireZeroOrOne cX6_requireZeroOrOne 1 none] ({ frames := 6, cells := 1, slots := 6, locals := 100 } : Room) (va_Pc [.int a0] (PreC G skC sz σ)) (QX (PoC G skC σ0) (Aw G.2.2.2 skC.1 sz) (rvV r0)) (XX (PoC G skC σ0) (Aw G.2.2.2 skC.1 sz) (rvV r0)) 1 6 (Aw G.2.2.2 skC.1 sz) := by
  refine mkMetX (by decide +kernel) (Nat.le_of_ble_eq_true rfl) skC_ok ?_
  intro p e s m below meth c ls E hW hl hr hlk ht
  have hl : lv_has ls 1 [(0, .int a0)] := hl
  generalize Aw G.2.2.2 skC.1 s.heap.size = A0 at E hW ⊢
  generalize ([.int a0] : List Value).toArray = args
  unfold f_X6_requireZeroOrOne at h
  refine lv_iload_n E.1 E.2.1 dX6_requireZeroOrOne_0 rfl (lv_at hl 0 rfl) ?_
  refine lv_if_eq (tgt := 19) E.1 E.2.1 dX6_requireZeroOrOne_1 (by decide) (fun g => ?_) (fun g => ?_)
  · have h := ifp h g
    exact x_v E hW hr hlk h (Nat.le_of_ble_eq_true rfl) (Nat.le_of_ble_eq_true rfl) dX6_requireZeroOrOne_19
  · have h := ifn h g
    refine lv_iload_n E.1 E.2.1 dX6_requireZeroOrOne_4 rfl (lv_at hl 0 rfl) ?_
    refine lv_iconst (v := (1 : Int32)) E.1 E.2.1 dX6_requireZeroOrOne_5 (by decide) ?_
    refine lv_icmp_eq (tgt := 19) E.1 E.2.1 dX6_requireZeroOrOne_6 (by decide) (fun g => ?_) (fun g => ?_)
    · have h := ifp h g
      exact x_v E hW hr hlk h (Nat.le_of_ble_eq_true rfl) (Nat.le_of_ble_eq_true rfl) dX6_requireZeroOrOne_19
    · have h := ifn h g
      exact x_throw E hW hl9 14 3 (by decide) ⟨rfl, rfl⟩ (by decide +kernel) kw_280 kw_12 tx_X6_65 ht hlk (x_inV h) (some_r h).2 (Nat.le_of_ble_eq_true rfl) (Nat.le_of_ble_eq_true rfl) (Nat.le_of_ble_eq_true rfl) (Nat.le_of_ble_eq_true rfl) (Nat.le_of_ble_eq_true rfl) (Nat.le_of_ble_eq_true rfl) (lv_size hl) dX6_requireZeroOrOne_9 dX6_requireZeroOrOne_12 dX6_requireZeroOrOne_13 dX6_requireZeroOrOne_15 dX6_requireZeroOrOne_18
set_option maxHeartbeats 4000000 in
set_option maxRecDepth 100000 in
theorem m_X6_remainder {l : Launch} {G : GP} {sz : Nat} {q0 : Nat} {a1 : Int32} {a2 : Int32} {σ σ0 : St} {r0 : (Nat ⊕ Int32)} (hl9 : l.stackTraces = false) (h : f_X6_remainder q0 a1 a2 σ = some (r0, σ0)) : vx_Met l yX6_remainder [.code yX6_remainder cX6_remainder 4 (some .int)] ({ frames := 7, cells := 3, slots := 18, locals := 121 } : Room) (va_Pc [.ref (G.2.2.2 + q0), .int a1, .int a2] (PreC G skC sz σ)) (QX (PoC G skC σ0) (Aw G.2.2.2 skC.1 sz) (rvI r0)) (XX (PoC G skC σ0) (Aw G.2.2.2 skC.1 sz) (rvI r0)) 3 18 (Aw G.2.2.2 skC.1 sz) := by
  refine mkMetX (by decide +kernel) (Nat.le_of_ble_eq_true rfl) skC_ok ?_
  intro p e s m below meth c ls E hW hl hr hlk ht
  have hl : lv_has ls 4 [(0, .ref (G.2.2.2 + q0)), (1, .int a1), (2, .int a2)] := hl
  generalize Aw G.2.2.2 skC.1 s.heap.size = A0 at E hW ⊢
  generalize ([.ref (G.2.2.2 + q0), .int a1, .int a2] : List Value).toArray = args
  unfold f_X6_remainder at h
  refine lv_iload_n E.1 E.2.1 dX6_remainder_0 rfl (lv_at hl 1 rfl) ?_
  obtain ⟨r3, σ1, c2, hE, hN⟩ := obx_r2 h
  refine c_SX (As := [.int a1]) (rest := []) E hW (m_X6_requireIndex hl9 c2) kw_641 ws_X6_requireIndex yo_X6_requireIndex ⟨rfl, rfl⟩ ⟨(Nat.le_of_ble_eq_true rfl), (Nat.le_of_ble_eq_true rfl)⟩ (lv_size hl) (Nat.le_of_ble_eq_true rfl) ⟨(Nat.le_of_ble_eq_true rfl), (Nat.le_of_ble_eq_true rfl)⟩ rfl dX6_remainder_1 (fun ex ce q9 H locs hrv hW h1 h2 h3 => ?_) (fun v9 H locs hrv hW => ?_)
  · exact x_outI hW ht hlk h1 h2 h3 (hE ex (rvV_inl hrv)) (Nat.le_of_ble_eq_true rfl) (Nat.le_of_ble_eq_true rfl)
  obtain ⟨-, qv, h⟩ := rvV_inr hrv hN
  subst qv
  refine W.eq (g2 := F0 m 4 ls []) rfl ?_
  refine lv_aload_n E.1 E.2.1 dX6_remainder_4 rfl (lv_at hl 0 rfl) ?_
  refine lv_iload_n E.1 E.2.1 dX6_remainder_5 rfl (lv_at hl 1 rfl) ?_
  obtain ⟨g4, h⟩ := gd_r h
  obtain ⟨r8, σ5, c7, hE, hN⟩ := obx_r2 h
  refine c_VX (As := [.int a1]) (rest := []) E hW (m_X6_requireDefined hl9 c7) g4 rfl kw_660 wv_X6_requireDefined yo_X6_requireDefined ⟨rfl, rfl⟩ ⟨(Nat.le_of_ble_eq_true rfl), (Nat.le_of_ble_eq_true rfl)⟩ (lv_size hl) (Nat.le_of_ble_eq_true rfl) ⟨(Nat.le_of_ble_eq_true rfl), (Nat.le_of_ble_eq_true rfl)⟩ rfl dX6_remainder_6 (fun ex ce q9 H locs hrv hW h1 h2 h3 => ?_) (fun v9 H locs hrv hW => ?_)
  · exact x_outI hW ht hlk h1 h2 h3 (hE ex (rvR_inl hrv)) (Nat.le_of_ble_eq_true rfl) (Nat.le_of_ble_eq_true rfl)
  obtain ⟨q6, qv, h⟩ := rvR_inr hrv hN
  subst qv
  refine W.eq (g2 := F0 m 9 ls [.ref (G.2.2.2 + q6)]) rfl ?_
  refine lv_astore_n (lv' := [(3, .ref (G.2.2.2 + q6)), (0, .ref (G.2.2.2 + q0)), (1, .int a1), (2, .int a2)]) E.1 E.2.1 dX6_remainder_9 rfl hl (by decide) rfl (fun ls hl => ?_)
  refine lv_iload_n E.1 E.2.1 dX6_remainder_10 rfl (lv_at hl 3 rfl) ?_
  obtain ⟨r11, σ9, c10, hE, hN⟩ := obx_r2 h
  refine c_SX (As := [.int a2]) (rest := []) E hW (m_X6_requireZeroOrOne hl9 c10) kw_696 ws_X6_requireZeroOrOne yo_X6_requireZeroOrOne ⟨rfl, rfl⟩ ⟨(Nat.le_of_ble_eq_true rfl), (Nat.le_of_ble_eq_true rfl)⟩ (lv_size hl) (Nat.le_of_ble_eq_true rfl) ⟨(Nat.le_of_ble_eq_true rfl), (Nat.le_of_ble_eq_true rfl)⟩ rfl dX6_remainder_11 (fun ex ce q9 H locs hrv hW h1 h2 h3 => ?_) (fun v9 H locs hrv hW => ?_)
  · exact x_outI hW ht hlk h1 h2 h3 (hE ex (rvV_inl hrv)) (Nat.le_of_ble_eq_true rfl) (Nat.le_of_ble_eq_true rfl)
  obtain ⟨-, qv, h⟩ := rvV_inr hrv hN
  subst qv
  refine W.eq (g2 := F0 m 14 ls []) rfl ?_
  refine lv_iload_n E.1 E.2.1 dX6_remainder_14 rfl (lv_at hl 3 rfl) ?_
  refine lv_if_ne (tgt := 25) E.1 E.2.1 dX6_remainder_15 (by decide) (fun g => ?_) (fun g => ?_)
  · have h := ifn h g
    refine lv_aload_n E.1 E.2.1 dX6_remainder_25 rfl (lv_at hl 0 rfl) ?_
    obtain ⟨g12, h⟩ := gd_r h
    refine gf_X6_117 E hW g12 dX6_remainder_26 ?_
    refine lv_l2i E.1 E.2.1 dX6_remainder_29 rfl ?_
    exact x_i E hW hr hlk h (Nat.le_of_ble_eq_true rfl) (Nat.le_of_ble_eq_true rfl) dX6_remainder_30
  · have h := ifp h g
    refine lv_aload_n E.1 E.2.1 dX6_remainder_18 rfl (lv_at hl 0 rfl) ?_
    obtain ⟨g13, h⟩ := gd_r h
    refine gf_X6_113 E hW g13 dX6_remainder_19 ?_
    refine lv_goto (tgt := 29) E.1 E.2.1 dX6_remainder_22 (by decide) ?_
    refine lv_l2i E.1 E.2.1 dX6_remainder_29 rfl ?_
    exact x_i E hW hr hlk h (Nat.le_of_ble_eq_true rfl) (Nat.le_of_ble_eq_true rfl) dX6_remainder_30
set_option maxHeartbeats 4000000 in
set_option maxRecDepth 100000 in
theorem m_X6_bound {l : Launch} {G : GP} {sz : Nat} {q0 : Nat} {a1 : Int32} {a2 : Int32} {σ σ0 : St} {r0 : (Nat ⊕ Int32)} (hl9 : l.stackTraces = false) (h : f_X6_bound q0 a1 a2 σ = some (r0, σ0)) : vx_Met l yX6_bound [.code yX6_bound cX6_bound 4 (some .int)] ({ frames := 7, cells := 3, slots := 18, locals := 121 } : Room) (va_Pc [.ref (G.2.2.2 + q0), .int a1, .int a2] (PreC G skC sz σ)) (QX (PoC G skC σ0) (Aw G.2.2.2 skC.1 sz) (rvI r0)) (XX (PoC G skC σ0) (Aw G.2.2.2 skC.1 sz) (rvI r0)) 3 18 (Aw G.2.2.2 skC.1 sz) := by
  refine mkMetX (by decide +kernel) (Nat.le_of_ble_eq_true rfl) skC_ok ?_
  intro p e s m below meth c ls E hW hl hr hlk ht
  have hl : lv_has ls 4 [(0, .ref (G.2.2.2 + q0)), (1, .int a1), (2, .int a2)] := hl
  generalize Aw G.2.2.2 skC.1 s.heap.size = A0 at E hW ⊢
  generalize ([.ref (G.2.2.2 + q0), .int a1, .int a2] : List Value).toArray = args
  unfold f_X6_bound at h
  refine lv_iload_n E.1 E.2.1 dX6_bound_0 rfl (lv_at hl 1 rfl) ?_
  obtain ⟨r3, σ1, c2, hE, hN⟩ := obx_r2 h
  refine c_SX (As := [.int a1]) (rest := []) E hW (m_X6_requireIndex hl9 c2) kw_641 ws_X6_requireIndex yo_X6_requireIndex ⟨rfl, rfl⟩ ⟨(Nat.le_of_ble_eq_true rfl), (Nat.le_of_ble_eq_true rfl)⟩ (lv_size hl) (Nat.le_of_ble_eq_true rfl) ⟨(Nat.le_of_ble_eq_true rfl), (Nat.le_of_ble_eq_true rfl)⟩ rfl dX6_bound_1 (fun ex ce q9 H locs hrv hW h1 h2 h3 => ?_) (fun v9 H locs hrv hW => ?_)
  · exact x_outI hW ht hlk h1 h2 h3 (hE ex (rvV_inl hrv)) (Nat.le_of_ble_eq_true rfl) (Nat.le_of_ble_eq_true rfl)
  obtain ⟨-, qv, h⟩ := rvV_inr hrv hN
  subst qv
  refine W.eq (g2 := F0 m 4 ls []) rfl ?_
  refine lv_aload_n E.1 E.2.1 dX6_bound_4 rfl (lv_at hl 0 rfl) ?_
  refine lv_iload_n E.1 E.2.1 dX6_bound_5 rfl (lv_at hl 1 rfl) ?_
  obtain ⟨g4, h⟩ := gd_r h
  obtain ⟨r8, σ5, c7, hE, hN⟩ := obx_r2 h
  refine c_VX (As := [.int a1]) (rest := []) E hW (m_X6_requireDefined hl9 c7) g4 rfl kw_660 wv_X6_requireDefined yo_X6_requireDefined ⟨rfl, rfl⟩ ⟨(Nat.le_of_ble_eq_true rfl), (Nat.le_of_ble_eq_true rfl)⟩ (lv_size hl) (Nat.le_of_ble_eq_true rfl) ⟨(Nat.le_of_ble_eq_true rfl), (Nat.le_of_ble_eq_true rfl)⟩ rfl dX6_bound_6 (fun ex ce q9 H locs hrv hW h1 h2 h3 => ?_) (fun v9 H locs hrv hW => ?_)
  · exact x_outI hW ht hlk h1 h2 h3 (hE ex (rvR_inl hrv)) (Nat.le_of_ble_eq_true rfl) (Nat.le_of_ble_eq_true rfl)
  obtain ⟨q6, qv, h⟩ := rvR_inr hrv hN
  subst qv
  refine W.eq (g2 := F0 m 9 ls [.ref (G.2.2.2 + q6)]) rfl ?_
  refine lv_astore_n (lv' := [(3, .ref (G.2.2.2 + q6)), (0, .ref (G.2.2.2 + q0)), (1, .int a1), (2, .int a2)]) E.1 E.2.1 dX6_bound_9 rfl hl (by decide) rfl (fun ls hl => ?_)
  refine lv_iload_n E.1 E.2.1 dX6_bound_10 rfl (lv_at hl 3 rfl) ?_
  obtain ⟨r11, σ9, c10, hE, hN⟩ := obx_r2 h
  refine c_SX (As := [.int a2]) (rest := []) E hW (m_X6_requireZeroOrOne hl9 c10) kw_696 ws_X6_requireZeroOrOne yo_X6_requireZeroOrOne ⟨rfl, rfl⟩ ⟨(Nat.le_of_ble_eq_true rfl), (Nat.le_of_ble_eq_true rfl)⟩ (lv_size hl) (Nat.le_of_ble_eq_true rfl) ⟨(Nat.le_of_ble_eq_true rfl), (Nat.le_of_ble_eq_true rfl)⟩ rfl dX6_bound_11 (fun ex ce q9 H locs hrv hW h1 h2 h3 => ?_) (fun v9 H locs hrv hW => ?_)
  · exact x_outI hW ht hlk h1 h2 h3 (hE ex (rvV_inl hrv)) (Nat.le_of_ble_eq_true rfl) (Nat.le_of_ble_eq_true rfl)
  obtain ⟨-, qv, h⟩ := rvV_inr hrv hN
  subst qv
  refine W.eq (g2 := F0 m 14 ls []) rfl ?_
  refine lv_iload_n E.1 E.2.1 dX6_bound_14 rfl (lv_at hl 3 rfl) ?_
  refine lv_if_ne (tgt := 25) E.1 E.2.1 dX6_bound_15 (by decide) (fun g => ?_) (fun g => ?_)
  · have h := ifn h g
    refine lv_aload_n E.1 E.2.1 dX6_bound_25 rfl (lv_at hl 0 rfl) ?_
    obtain ⟨g12, h⟩ := gd_r h
    obtain ⟨x14, σ13, c15, h⟩ := obn_r h
    refine c_V (As := []) (rest := []) E hW (m_X2_boundHigh c15) g12 rfl kw_711 wv_X2_boundHigh yo_X2_boundHigh ⟨rfl, rfl⟩ ⟨(Nat.le_of_ble_eq_true rfl), (Nat.le_of_ble_eq_true rfl)⟩ (lv_size hl) (Nat.le_of_ble_eq_true rfl) ⟨(Nat.le_of_ble_eq_true rfl), (Nat.le_of_ble_eq_true rfl)⟩ rfl dX6_bound_26 (fun H locs hW => ?_)
    refine W.eq (g2 := F0 m 29 ls [.long x14]) rfl ?_
    refine lv_l2i E.1 E.2.1 dX6_bound_29 rfl ?_
    exact x_i E hW hr hlk h (Nat.le_of_ble_eq_true rfl) (Nat.le_of_ble_eq_true rfl) dX6_bound_30
  · have h := ifp h g
    refine lv_aload_n E.1 E.2.1 dX6_bound_18 rfl (lv_at hl 0 rfl) ?_
    obtain ⟨g16, h⟩ := gd_r h
    obtain ⟨x18, σ17, c19, h⟩ := obn_r h
    refine c_V (As := []) (rest := []) E hW (m_X2_boundLow c19) g16 rfl kw_707 wv_X2_boundLow yo_X2_boundLow ⟨rfl, rfl⟩ ⟨(Nat.le_of_ble_eq_true rfl), (Nat.le_of_ble_eq_true rfl)⟩ (lv_size hl) (Nat.le_of_ble_eq_true rfl) ⟨(Nat.le_of_ble_eq_true rfl), (Nat.le_of_ble_eq_true rfl)⟩ rfl dX6_bound_19 (fun H locs hW => ?_)
    refine W.eq (g2 := F0 m 22 ls [.long x18]) rfl ?_
    refine lv_goto (tgt := 29) E.1 E.2.1 dX6_bound_22 (by decide) ?_
    refine lv_l2i E.1 E.2.1 dX6_bound_29 rfl ?_
    exact x_i E hW hr hlk h (Nat.le_of_ble_eq_true rfl) (Nat.le_of_ble_eq_true rfl) dX6_bound_30
set_option maxHeartbeats 4000000 in
set_option maxRecDepth 100000 in
theorem m_X6_requireBetween {l : Launch} {G : GP} {sz : Nat} {a0 : Int64} {a2 : Int64} {a4 : Int64} {σ σ0 : St} {r0 : (Nat ⊕ Unit)} (hl9 : l.stackTraces = false) (h : f_X6_requireBetween a0 a2 a4 σ = some (r0, σ0)) : vx_Met l yX6_requireBetween [.code yX6_requireBetween cX6_requireBetween 6 none] ({ frames := 6, cells := 1, slots := 6, locals := 100 } : Room) (va_Pc [.long a0, .long a2, .long a4] (PreC G skC sz σ)) (QX (PoC G skC σ0) (Aw G.2.2.2 skC.1 sz) (rvV r0)) (XX (PoC G skC σ0) (Aw G.2.2.2 skC.1 sz) (rvV r0)) 1 6 (Aw G.2.2.2 skC.1 sz) := by
  refine mkMetX (by decide +kernel) (Nat.le_of_ble_eq_true rfl) skC_ok ?_
  intro p e s m below meth c ls E hW hl hr hlk ht
  have hl : lv_has ls 6 [(0, .long a0), (2, .long a2), (4, .long a4)] := hl
  generalize Aw G.2.2.2 skC.1 s.heap.size = A0 at E hW ⊢
  generalize ([.long a0, .long a2, .long a4] : List Value).toArray = args
  unfold f_X6_requireBetween at h
  refine lv_lload_n E.1 E.2.1 dX6_requireBetween_0 rfl (lv_at hl 0 rfl) ?_
  refine lv_lload_n E.1 E.2.1 dX6_requireBetween_1 rfl (lv_at hl 1 rfl) ?_
  obtain ⟨J2, eJ2, h⟩ := bnd_x h
  have hJ2 : ∀ (σ1 : St) (H : Heap) (locs : List Loc) (ls : Array Slot), J2 σ1 = some (r0, σ0) → Wo G skC A0 s σ1 H locs → lv_has ls 6 [] → W p l e ({ frames := 6, cells := 1, slots := 6, locals := 100 } : Room) s m args below meth c H locs 0 0 (vx_MQ below (QX (PoC G skC σ0) A0 (rvV r0)) (XX (PoC G skC σ0) A0 (rvV r0)) args s 1 6 A0) (F0 m 13 ls []) := by
    intro σ1 H locs ls h hW hl
    have h := jr1 eJ2 h
    exact x_throw E hW hl9 15 3 (by decide) ⟨rfl, rfl⟩ (by decide +kernel) kw_280 kw_12 tx_X6_65 ht hlk (x_inV h) (some_r h).2 (Nat.le_of_ble_eq_true rfl) (Nat.le_of_ble_eq_true rfl) (Nat.le_of_ble_eq_true rfl) (Nat.le_of_ble_eq_true rfl) (Nat.le_of_ble_eq_true rfl) (Nat.le_of_ble_eq_true rfl) (lv_size hl) dX6_requireBetween_13 dX6_requireBetween_16 dX6_requireBetween_17 dX6_requireBetween_19 dX6_requireBetween_22
  refine r_lc_lt E dX6_requireBetween_2 dX6_requireBetween_3 (tgt := 13) (by decide) (fun g => ?_) (fun g => ?_)
  · have h := ifp h g
    exact hJ2 _ _ _ _ h hW (lv_sub hl [] rfl)
  · have h := ifn h g
    refine lv_lload_n E.1 E.2.1 dX6_requireBetween_6 rfl (lv_at hl 0 rfl) ?_
    refine lv_lload E.1 E.2.1 dX6_requireBetween_7 (lv_at hl 2 rfl) ?_
    refine r_lc_le E dX6_requireBetween_9 dX6_requireBetween_10 (tgt := 23) (by decide) (fun g => ?_) (fun g => ?_)
    · have h := ifn h g
      exact x_v E hW hr hlk h (Nat.le_of_ble_eq_true rfl) (Nat.le_of_ble_eq_true rfl) dX6_requireBetween_23
    · have h := ifp h g
      exact hJ2 _ _ _ _ h hW (lv_sub hl [] rfl)
set_option maxHeartbeats 4000000 in
set_option maxRecDepth 100000 in
theorem m_X6_value {l : Launch} {G : GP} {sz : Nat} {q0 : Nat} {a1 : Int32} {a2 : Int32} {a3 : Int32} {a4 : Int32} {σ σ0 : St} {r0 : (Nat ⊕ Int32)} (hl9 : l.stackTraces = false) (h : f_X6_value q0 a1 a2 a3 a4 σ = some (r0, σ0)) : vx_Met l yX6_value [.code yX6_value cX6_value 8 (some .int)] ({ frames := 7, cells := 5, slots := 30, locals := 125 } : Room) (va_Pc [.ref (G.2.2.2 + q0), .int a1, .int a2, .int a3, .int a4] (PreC G skC sz σ)) (QX (PoC G skC σ0) (Aw G.2.2.2 skC.1 sz) (rvI r0)) (XX (PoC G skC σ0) (Aw G.2.2.2 skC.1 sz) (rvI r0)) 5 30 (Aw G.2.2.2 skC.1 sz) := by
  refine mkMetX (by decide +kernel) (Nat.le_of_ble_eq_true rfl) skC_ok ?_
  intro p e s m below meth c ls E hW hl hr hlk ht
  have hl : lv_has ls 8 [(0, .ref (G.2.2.2 + q0)), (1, .int a1), (2, .int a2), (3, .int a3), (4, .int a4)] := hl
  generalize Aw G.2.2.2 skC.1 s.heap.size = A0 at E hW ⊢
  generalize ([.ref (G.2.2.2 + q0), .int a1, .int a2, .int a3, .int a4] : List Value).toArray = args
  unfold f_X6_value at h
  refine lv_iload_n E.1 E.2.1 dX6_value_0 rfl (lv_at hl 1 rfl) ?_
  obtain ⟨r3, σ1, c2, hE, hN⟩ := obx_r2 h
  refine c_SX (As := [.int a1]) (rest := []) E hW (m_X6_requireIndex hl9 c2) kw_641 ws_X6_requireIndex yo_X6_requireIndex ⟨rfl, rfl⟩ ⟨(Nat.le_of_ble_eq_true rfl), (Nat.le_of_ble_eq_true rfl)⟩ (lv_size hl) (Nat.le_of_ble_eq_true rfl) ⟨(Nat.le_of_ble_eq_true rfl), (Nat.le_of_ble_eq_true rfl)⟩ rfl dX6_value_1 (fun ex ce q9 H locs hrv hW h1 h2 h3 => ?_) (fun v9 H locs hrv hW => ?_)
  · exact x_outI hW ht hlk h1 h2 h3 (hE ex (rvV_inl hrv)) (Nat.le_of_ble_eq_true rfl) (Nat.le_of_ble_eq_true rfl)
  obtain ⟨-, qv, h⟩ := rvV_inr hrv hN
  subst qv
  refine W.eq (g2 := F0 m 4 ls []) rfl ?_
  refine lv_aload_n E.1 E.2.1 dX6_value_4 rfl (lv_at hl 0 rfl) ?_
  refine lv_iload_n E.1 E.2.1 dX6_value_5 rfl (lv_at hl 1 rfl) ?_
  obtain ⟨g4, h⟩ := gd_r h
  obtain ⟨r8, σ5, c7, hE, hN⟩ := obx_r2 h
  refine c_VX (As := [.int a1]) (rest := []) E hW (m_X6_requireDefined hl9 c7) g4 rfl kw_660 wv_X6_requireDefined yo_X6_requireDefined ⟨rfl, rfl⟩ ⟨(Nat.le_of_ble_eq_true rfl), (Nat.le_of_ble_eq_true rfl)⟩ (lv_size hl) (Nat.le_of_ble_eq_true rfl) ⟨(Nat.le_of_ble_eq_true rfl), (Nat.le_of_ble_eq_true rfl)⟩ rfl dX6_value_6 (fun ex ce q9 H locs hrv hW h1 h2 h3 => ?_) (fun v9 H locs hrv hW => ?_)
  · exact x_outI hW ht hlk h1 h2 h3 (hE ex (rvR_inl hrv)) (Nat.le_of_ble_eq_true rfl) (Nat.le_of_ble_eq_true rfl)
  obtain ⟨q6, qv, h⟩ := rvR_inr hrv hN
  subst qv
  refine W.eq (g2 := F0 m 9 ls [.ref (G.2.2.2 + q6)]) rfl ?_
  refine lv_astore (lv' := [(5, .ref (G.2.2.2 + q6)), (0, .ref (G.2.2.2 + q0)), (1, .int a1), (2, .int a2), (3, .int a3), (4, .int a4)]) E.1 E.2.1 dX6_value_9 hl (by decide) rfl (fun ls hl => ?_)
  refine lv_iload_n E.1 E.2.1 dX6_value_11 rfl (lv_at hl 3 rfl) ?_
  refine lv_i2l E.1 E.2.1 dX6_value_12 rfl ?_
  refine lv_ldc2 (v := (-1000 : Int64)) E.1 E.2.1 E.2.2.2.1 (E.wd kw_722) dX6_value_13 ?_
  refine lv_ldc2 (v := (1000 : Int64)) E.1 E.2.1 E.2.2.2.1 (E.wd kw_723) dX6_value_16 ?_
  obtain ⟨r11, σ9, c10, hE, hN⟩ := obx_r2 h
  refine c_SX (As := [.long a2.toInt64, .long (-1000 : Int64), .long (1000 : Int64)]) (rest := []) E hW (m_X6_requireBetween hl9 c10) kw_724 ws_X6_requireBetween yo_X6_requireBetween ⟨rfl, rfl⟩ ⟨(Nat.le_of_ble_eq_true rfl), (Nat.le_of_ble_eq_true rfl)⟩ (lv_size hl) (Nat.le_of_ble_eq_true rfl) ⟨(Nat.le_of_ble_eq_true rfl), (Nat.le_of_ble_eq_true rfl)⟩ rfl dX6_value_19 (fun ex ce q9 H locs hrv hW h1 h2 h3 => ?_) (fun v9 H locs hrv hW => ?_)
  · exact x_outI hW ht hlk h1 h2 h3 (hE ex (rvV_inl hrv)) (Nat.le_of_ble_eq_true rfl) (Nat.le_of_ble_eq_true rfl)
  obtain ⟨-, qv, h⟩ := rvV_inr hrv hN
  subst qv
  refine W.eq (g2 := F0 m 22 ls []) rfl ?_
  refine lv_iload_n E.1 E.2.1 dX6_value_22 rfl (lv_at hl 4 rfl) ?_
  refine lv_i2l E.1 E.2.1 dX6_value_23 rfl ?_
  refine lv_ldc2 (v := (-1000 : Int64)) E.1 E.2.1 E.2.2.2.1 (E.wd kw_722) dX6_value_24 ?_
  refine lv_ldc2 (v := (1000 : Int64)) E.1 E.2.1 E.2.2.2.1 (E.wd kw_723) dX6_value_27 ?_
  obtain ⟨r14, σ12, c13, hE, hN⟩ := obx_r2 h
  refine c_SX (As := [.long a3.toInt64, .long (-1000 : Int64), .long (1000 : Int64)]) (rest := []) E hW (m_X6_requireBetween hl9 c13) kw_724 ws_X6_requireBetween yo_X6_requireBetween ⟨rfl, rfl⟩ ⟨(Nat.le_of_ble_eq_true rfl), (Nat.le_of_ble_eq_true rfl)⟩ (lv_size hl) (Nat.le_of_ble_eq_true rfl) ⟨(Nat.le_of_ble_eq_true rfl), (Nat.le_of_ble_eq_true rfl)⟩ rfl dX6_value_30 (fun ex ce q9 H locs hrv hW h1 h2 h3 => ?_) (fun v9 H locs hrv hW => ?_)
  · exact x_outI hW ht hlk h1 h2 h3 (hE ex (rvV_inl hrv)) (Nat.le_of_ble_eq_true rfl) (Nat.le_of_ble_eq_true rfl)
  obtain ⟨-, qv, h⟩ := rvV_inr hrv hN
  subst qv
  refine W.eq (g2 := F0 m 33 ls []) rfl ?_
  refine lv_iload E.1 E.2.1 dX6_value_33 (lv_at hl 5 rfl) ?_
  obtain ⟨r17, σ15, c16, hE, hN⟩ := obx_r2 h
  refine c_SX (As := [.int a4]) (rest := []) E hW (m_X6_requireZeroOrOne hl9 c16) kw_696 ws_X6_requireZeroOrOne yo_X6_requireZeroOrOne ⟨rfl, rfl⟩ ⟨(Nat.le_of_ble_eq_true rfl), (Nat.le_of_ble_eq_true rfl)⟩ (lv_size hl) (Nat.le_of_ble_eq_true rfl) ⟨(Nat.le_of_ble_eq_true rfl), (Nat.le_of_ble_eq_true rfl)⟩ rfl dX6_value_35 (fun ex ce q9 H locs hrv hW h1 h2 h3 => ?_) (fun v9 H locs hrv hW => ?_)
  · exact x_outI hW ht hlk h1 h2 h3 (hE ex (rvV_inl hrv)) (Nat.le_of_ble_eq_true rfl) (Nat.le_of_ble_eq_true rfl)
  obtain ⟨-, qv, h⟩ := rvV_inr hrv hN
  subst qv
  refine W.eq (g2 := F0 m 38 ls []) rfl ?_
  refine lv_aload E.1 E.2.1 dX6_value_38 (lv_at hl 0 rfl) ?_
  refine lv_iload_n E.1 E.2.1 dX6_value_40 rfl (lv_at hl 3 rfl) ?_
  refine lv_i2l E.1 E.2.1 dX6_value_41 rfl ?_
  refine lv_iload_n E.1 E.2.1 dX6_value_42 rfl (lv_at hl 4 rfl) ?_
  refine lv_i2l E.1 E.2.1 dX6_value_43 rfl ?_
  obtain ⟨g18, h⟩ := gd_r h
  obtain ⟨x20, σ19, c21, h⟩ := obn_r h
  refine c_V (As := [.long a2.toInt64, .long a3.toInt64]) (rest := []) E hW (m_X2_valueInBillionths c21) g18 rfl kw_728 wv_X2_valueInBillionths yo_X2_valueInBillionths ⟨rfl, rfl⟩ ⟨(Nat.le_of_ble_eq_true rfl), (Nat.le_of_ble_eq_true rfl)⟩ (lv_size hl) (Nat.le_of_ble_eq_true rfl) ⟨(Nat.le_of_ble_eq_true rfl), (Nat.le_of_ble_eq_true rfl)⟩ rfl dX6_value_44 (fun H locs hW => ?_)
  refine W.eq (g2 := F0 m 47 ls [.long x20]) rfl ?_
  refine lv_lstore (lv' := [(6, .long x20), (5, .ref (G.2.2.2 + q6)), (0, .ref (G.2.2.2 + q0)), (1, .int a1), (2, .int a2), (3, .int a3), (4, .int a4)]) E.1 E.2.1 dX6_value_47 hl (by decide) rfl (fun ls hl => ?_)
  refine lv_iload E.1 E.2.1 dX6_value_49 (lv_at hl 6 rfl) ?_
  refine lv_if_ne (tgt := 71) E.1 E.2.1 dX6_value_51 (by decide) (fun g => ?_) (fun g => ?_)
  · have h := ifn h g
    refine lv_aload E.1 E.2.1 dX6_value_71 (lv_at hl 1 rfl) ?_
    refine gf_X6_117 E hW g18 dX6_value_73 ?_
    refine lv_lload E.1 E.2.1 dX6_value_76 (lv_at hl 0 rfl) ?_
    refine lv_lneg E.1 E.2.1 dX6_value_78 ?_
    refine lv_ldc2 (v := (1000000000 : Int64)) E.1 E.2.1 E.2.2.2.1 (E.wd kw_734) dX6_value_79 ?_
    obtain ⟨x23, σ22, c24, h⟩ := obn_r h
    refine c_S (As := [.long (-x20), .long (1000000000 : Int64)]) (rest := [.long (σ19.2 q6 2)]) E hW (m_J9_floorDiv_f86c9 c24) kw_735 ws_J9_floorDiv_f86c9 yo_J9_floorDiv_f86c9 ⟨rfl, rfl⟩ ⟨(Nat.le_of_ble_eq_true rfl), (Nat.le_of_ble_eq_true rfl)⟩ (lv_size hl) (Nat.le_of_ble_eq_true rfl) ⟨(Nat.le_of_ble_eq_true rfl), (Nat.le_of_ble_eq_true rfl)⟩ rfl dX6_value_82 (fun H locs hW => ?_)
    refine W.eq (g2 := F0 m 85 ls [.long x23, .long (σ19.2 q6 2)]) rfl ?_
    refine lv_lsub E.1 E.2.1 dX6_value_85 ?_
    refine lv_l2i E.1 E.2.1 dX6_value_86 rfl ?_
    exact x_i E hW hr hlk h (Nat.le_of_ble_eq_true rfl) (Nat.le_of_ble_eq_true rfl) dX6_value_87
  · have h := ifp h g
    refine lv_aload E.1 E.2.1 dX6_value_54 (lv_at hl 1 rfl) ?_
    refine gf_X6_113 E hW g18 dX6_value_56 ?_
    refine lv_lload E.1 E.2.1 dX6_value_59 (lv_at hl 0 rfl) ?_
    refine lv_ldc2 (v := (1000000000 : Int64)) E.1 E.2.1 E.2.2.2.1 (E.wd kw_734) dX6_value_61 ?_
    obtain ⟨x26, σ25, c27, h⟩ := obn_r h
    refine c_S (As := [.long x20, .long (1000000000 : Int64)]) (rest := [.long (σ19.2 q6 1)]) E hW (m_J9_floorDiv_f86c9 c27) kw_735 ws_J9_floorDiv_f86c9 yo_J9_floorDiv_f86c9 ⟨rfl, rfl⟩ ⟨(Nat.le_of_ble_eq_true rfl), (Nat.le_of_ble_eq_true rfl)⟩ (lv_size hl) (Nat.le_of_ble_eq_true rfl) ⟨(Nat.le_of_ble_eq_true rfl), (Nat.le_of_ble_eq_true rfl)⟩ rfl dX6_value_64 (fun H locs hW => ?_)
    refine W.eq (g2 := F0 m 67 ls [.long x26, .long (σ19.2 q6 1)]) rfl ?_
    refine lv_ladd E.1 E.2.1 dX6_value_67 ?_
    refine lv_goto (tgt := 86) E.1 E.2.1 dX6_value_68 (by decide) ?_
    refine lv_l2i E.1 E.2.1 dX6_value_86 rfl ?_
    exact x_i E hW hr hlk h (Nat.le_of_ble_eq_true rfl) (Nat.le_of_ble_eq_true rfl) dX6_value_87
set_option maxHeartbeats 4000000 in
set_option maxRecDepth 100000 in
theorem m_X6_degree {l : Launch} {G : GP} {sz : Nat} {q0 : Nat} {a1 : Int32} {σ σ0 : St} {r0 : (Nat ⊕ Int32)} (hl9 : l.stackTraces = false) (h : f_X6_degree q0 a1 σ = some (r0, σ0)) : vx_Met l yX6_degree [.code yX6_degree cX6_degree 2 (some .int)] ({ frames := 7, cells := 2, slots := 12, locals := 121 } : Room) (va_Pc [.ref (G.2.2.2 + q0), .int a1] (PreC G skC sz σ)) (QX (PoC G skC σ0) (Aw G.2.2.2 skC.1 sz) (rvI r0)) (XX (PoC G skC σ0) (Aw G.2.2.2 skC.1 sz) (rvI r0)) 2 12 (Aw G.2.2.2 skC.1 sz) := by
  refine mkMetX (by decide +kernel) (Nat.le_of_ble_eq_true rfl) skC_ok ?_
  intro p e s m below meth c ls E hW hl hr hlk ht
  have hl : lv_has ls 2 [(0, .ref (G.2.2.2 + q0)), (1, .int a1)] := hl
  generalize Aw G.2.2.2 skC.1 s.heap.size = A0 at E hW ⊢
  generalize ([.ref (G.2.2.2 + q0), .int a1] : List Value).toArray = args
  unfold f_X6_degree at h
  refine lv_iload_n E.1 E.2.1 dX6_degree_0 rfl (lv_at hl 1 rfl) ?_
  obtain ⟨r3, σ1, c2, hE, hN⟩ := obx_r2 h
  refine c_SX (As := [.int a1]) (rest := []) E hW (m_X6_requireIndex hl9 c2) kw_641 ws_X6_requireIndex yo_X6_requireIndex ⟨rfl, rfl⟩ ⟨(Nat.le_of_ble_eq_true rfl), (Nat.le_of_ble_eq_true rfl)⟩ (lv_size hl) (Nat.le_of_ble_eq_true rfl) ⟨(Nat.le_of_ble_eq_true rfl), (Nat.le_of_ble_eq_true rfl)⟩ rfl dX6_degree_1 (fun ex ce q9 H locs hrv hW h1 h2 h3 => ?_) (fun v9 H locs hrv hW => ?_)
  · exact x_outI hW ht hlk h1 h2 h3 (hE ex (rvV_inl hrv)) (Nat.le_of_ble_eq_true rfl) (Nat.le_of_ble_eq_true rfl)
  obtain ⟨-, qv, h⟩ := rvV_inr hrv hN
  subst qv
  refine W.eq (g2 := F0 m 4 ls []) rfl ?_
  refine lv_aload_n E.1 E.2.1 dX6_degree_4 rfl (lv_at hl 0 rfl) ?_
  refine lv_iload_n E.1 E.2.1 dX6_degree_5 rfl (lv_at hl 1 rfl) ?_
  obtain ⟨g4, h⟩ := gd_r h
  obtain ⟨r8, σ5, c7, hE, hN⟩ := obx_r2 h
  refine c_VX (As := [.int a1]) (rest := []) E hW (m_X6_requireDefined hl9 c7) g4 rfl kw_660 wv_X6_requireDefined yo_X6_requireDefined ⟨rfl, rfl⟩ ⟨(Nat.le_of_ble_eq_true rfl), (Nat.le_of_ble_eq_true rfl)⟩ (lv_size hl) (Nat.le_of_ble_eq_true rfl) ⟨(Nat.le_of_ble_eq_true rfl), (Nat.le_of_ble_eq_true rfl)⟩ rfl dX6_degree_6 (fun ex ce q9 H locs hrv hW h1 h2 h3 => ?_) (fun v9 H locs hrv hW => ?_)
  · exact x_outI hW ht hlk h1 h2 h3 (hE ex (rvR_inl hrv)) (Nat.le_of_ble_eq_true rfl) (Nat.le_of_ble_eq_true rfl)
  obtain ⟨q6, qv, h⟩ := rvR_inr hrv hN
  subst qv
  refine W.eq (g2 := F0 m 9 ls [.ref (G.2.2.2 + q6)]) rfl ?_
  obtain ⟨g9, h⟩ := gd_r h
  obtain ⟨x11, σ10, c12, h⟩ := obn_r h
  refine c_V (As := []) (rest := []) E hW (m_X2_highestDegree c12) g9 rfl kw_743 wv_X2_highestDegree yo_X2_highestDegree ⟨rfl, rfl⟩ ⟨(Nat.le_of_ble_eq_true rfl), (Nat.le_of_ble_eq_true rfl)⟩ (lv_size hl) (Nat.le_of_ble_eq_true rfl) ⟨(Nat.le_of_ble_eq_true rfl), (Nat.le_of_ble_eq_true rfl)⟩ rfl dX6_degree_9 (fun H locs hW => ?_)
  refine W.eq (g2 := F0 m 12 ls [.int x11]) rfl ?_
  exact x_i E hW hr hlk h (Nat.le_of_ble_eq_true rfl) (Nat.le_of_ble_eq_true rfl) dX6_degree_12
set_option maxHeartbeats 4000000 in
set_option maxRecDepth 100000 in
theorem m_X6_covers {l : Launch} {G : GP} {sz : Nat} {q0 : Nat} {a1 : Int32} {a2 : Int32} {σ σ0 : St} {r0 : (Nat ⊕ Int32)} (hl9 : l.stackTraces = false) (h : f_X6_covers q0 a1 a2 σ = some (r0, σ0)) : vx_Met l yX6_covers [.code yX6_covers cX6_covers 5 (some .boolean)] ({ frames := 7, cells := 4, slots := 24, locals := 121 } : Room) (va_Pc [.ref (G.2.2.2 + q0), .int a1, .int a2] (PreC G skC sz σ)) (QX (PoC G skC σ0) (Aw G.2.2.2 skC.1 sz) (rvI r0)) (XX (PoC G skC σ0) (Aw G.2.2.2 skC.1 sz) (rvI r0)) 4 24 (Aw G.2.2.2 skC.1 sz) := by
  refine mkMetX (by decide +kernel) (Nat.le_of_ble_eq_true rfl) skC_ok ?_
  intro p e s m below meth c ls E hW hl hr hlk ht
  have hl : lv_has ls 5 [(0, .ref (G.2.2.2 + q0)), (1, .int a1), (2, .int a2)] := hl
  generalize Aw G.2.2.2 skC.1 s.heap.size = A0 at E hW ⊢
  generalize ([.ref (G.2.2.2 + q0), .int a1, .int a2] : List Value).toArray = args
  unfold f_X6_covers at h
  refine lv_iload_n E.1 E.2.1 dX6_covers_0 rfl (lv_at hl 1 rfl) ?_
  obtain ⟨r3, σ1, c2, hE, hN⟩ := obx_r2 h
  refine c_SX (As := [.int a1]) (rest := []) E hW (m_X6_requireIndex hl9 c2) kw_641 ws_X6_requireIndex yo_X6_requireIndex ⟨rfl, rfl⟩ ⟨(Nat.le_of_ble_eq_true rfl), (Nat.le_of_ble_eq_true rfl)⟩ (lv_size hl) (Nat.le_of_ble_eq_true rfl) ⟨(Nat.le_of_ble_eq_true rfl), (Nat.le_of_ble_eq_true rfl)⟩ rfl dX6_covers_1 (fun ex ce q9 H locs hrv hW h1 h2 h3 => ?_) (fun v9 H locs hrv hW => ?_)
  · exact x_outI hW ht hlk h1 h2 h3 (hE ex (rvV_inl hrv)) (Nat.le_of_ble_eq_true rfl) (Nat.le_of_ble_eq_true rfl)
  obtain ⟨-, qv, h⟩ := rvV_inr hrv hN
  subst qv
  refine W.eq (g2 := F0 m 4 ls []) rfl ?_
  refine lv_iload_n E.1 E.2.1 dX6_covers_4 rfl (lv_at hl 2 rfl) ?_
  obtain ⟨r6, σ4, c5, hE, hN⟩ := obx_r2 h
  refine c_SX (As := [.int a2]) (rest := []) E hW (m_X6_requireIndex hl9 c5) kw_641 ws_X6_requireIndex yo_X6_requireIndex ⟨rfl, rfl⟩ ⟨(Nat.le_of_ble_eq_true rfl), (Nat.le_of_ble_eq_true rfl)⟩ (lv_size hl) (Nat.le_of_ble_eq_true rfl) ⟨(Nat.le_of_ble_eq_true rfl), (Nat.le_of_ble_eq_true rfl)⟩ rfl dX6_covers_5 (fun ex ce q9 H locs hrv hW h1 h2 h3 => ?_) (fun v9 H locs hrv hW => ?_)
  · exact x_outI hW ht hlk h1 h2 h3 (hE ex (rvV_inl hrv)) (Nat.le_of_ble_eq_true rfl) (Nat.le_of_ble_eq_true rfl)
  obtain ⟨-, qv, h⟩ := rvV_inr hrv hN
  subst qv
  refine W.eq (g2 := F0 m 8 ls []) rfl ?_
  refine lv_aload_n E.1 E.2.1 dX6_covers_8 rfl (lv_at hl 0 rfl) ?_
  refine lv_iload_n E.1 E.2.1 dX6_covers_9 rfl (lv_at hl 1 rfl) ?_
  obtain ⟨g7, h⟩ := gd_r h
  obtain ⟨r11, σ8, c10, hE, hN⟩ := obx_r2 h
  refine c_VX (As := [.int a1]) (rest := []) E hW (m_X6_requireDefined hl9 c10) g7 rfl kw_660 wv_X6_requireDefined yo_X6_requireDefined ⟨rfl, rfl⟩ ⟨(Nat.le_of_ble_eq_true rfl), (Nat.le_of_ble_eq_true rfl)⟩ (lv_size hl) (Nat.le_of_ble_eq_true rfl) ⟨(Nat.le_of_ble_eq_true rfl), (Nat.le_of_ble_eq_true rfl)⟩ rfl dX6_covers_10 (fun ex ce q9 H locs hrv hW h1 h2 h3 => ?_) (fun v9 H locs hrv hW => ?_)
  · exact x_outI hW ht hlk h1 h2 h3 (hE ex (rvR_inl hrv)) (Nat.le_of_ble_eq_true rfl) (Nat.le_of_ble_eq_true rfl)
  obtain ⟨q9, qv, h⟩ := rvR_inr hrv hN
  subst qv
  refine W.eq (g2 := F0 m 13 ls [.ref (G.2.2.2 + q9)]) rfl ?_
  refine lv_astore_n (lv' := [(3, .ref (G.2.2.2 + q9)), (0, .ref (G.2.2.2 + q0)), (1, .int a1), (2, .int a2)]) E.1 E.2.1 dX6_covers_13 rfl hl (by decide) rfl (fun ls hl => ?_)
  refine lv_aload_n E.1 E.2.1 dX6_covers_14 rfl (lv_at hl 1 rfl) ?_
  refine lv_iload_n E.1 E.2.1 dX6_covers_15 rfl (lv_at hl 3 rfl) ?_
  obtain ⟨r15, σ12, c14, hE, hN⟩ := obx_r2 h
  refine c_VX (As := [.int a2]) (rest := []) E hW (m_X6_requireDefined hl9 c14) g7 rfl kw_660 wv_X6_requireDefined yo_X6_requireDefined ⟨rfl, rfl⟩ ⟨(Nat.le_of_ble_eq_true rfl), (Nat.le_of_ble_eq_true rfl)⟩ (lv_size hl) (Nat.le_of_ble_eq_true rfl) ⟨(Nat.le_of_ble_eq_true rfl), (Nat.le_of_ble_eq_true rfl)⟩ rfl dX6_covers_16 (fun ex ce q9 H locs hrv hW h1 h2 h3 => ?_) (fun v9 H locs hrv hW => ?_)
  · exact x_outI hW ht hlk h1 h2 h3 (hE ex (rvR_inl hrv)) (Nat.le_of_ble_eq_true rfl) (Nat.le_of_ble_eq_true rfl)
  obtain ⟨q13, qv, h⟩ := rvR_inr hrv hN
  subst qv
  refine W.eq (g2 := F0 m 19 ls [.ref (G.2.2.2 + q13)]) rfl ?_
  refine lv_astore (lv' := [(4, .ref (G.2.2.2 + q13)), (3, .ref (G.2.2.2 + q9)), (0, .ref (G.2.2.2 + q0)), (1, .int a1), (2, .int a2)]) E.1 E.2.1 dX6_covers_19 hl (by decide) rfl (fun ls hl => ?_)
  refine lv_aload_n E.1 E.2.1 dX6_covers_21 rfl (lv_at hl 1 rfl) ?_
  refine lv_aload E.1 E.2.1 dX6_covers_22 (lv_at hl 0 rfl) ?_
  obtain ⟨g16, h⟩ := gd_r h
  obtain ⟨x18, σ17, c19, h⟩ := obn_r h
  refine c_V (As := [.ref (G.2.2.2 + q13)]) (rest := []) E hW (m_X2_contains c19) g16 rfl kw_755 wv_X2_contains yo_X2_contains ⟨rfl, rfl⟩ ⟨(Nat.le_of_ble_eq_true rfl), (Nat.le_of_ble_eq_true rfl)⟩ (lv_size hl) (Nat.le_of_ble_eq_true rfl) ⟨(Nat.le_of_ble_eq_true rfl), (Nat.le_of_ble_eq_true rfl)⟩ rfl dX6_covers_24 (fun H locs hW => ?_)
  refine W.eq (g2 := F0 m 27 ls [.int x18]) rfl ?_
  obtain ⟨g20, h⟩ := gd_r h
  exact x_z E hW hr hlk g20 h (Nat.le_of_ble_eq_true rfl) (Nat.le_of_ble_eq_true rfl) dX6_covers_27
set_option maxHeartbeats 4000000 in
set_option maxRecDepth 100000 in
theorem m_X6_reason {l : Launch} {G : GP} {sz : Nat} {q0 : Nat} {a1 : Int32} {a2 : Int32} {a3 : Int32} {σ σ0 : St} {r0 : (Nat ⊕ Int32)} (hl9 : l.stackTraces = false) (h : f_X6_reason q0 a1 a2 a3 σ = some (r0, σ0)) : vx_Met l yX6_reason [.code yX6_reason cX6_reason 7 (some .int)] ({ frames := 7, cells := 6, slots := 36, locals := 121 } : Room) (va_Pc [.ref (G.2.2.2 + q0), .int a1, .int a2, .int a3] (PreC G skC sz σ)) (QX (PoC G skC σ0) (Aw G.2.2.2 skC.1 sz) (rvI r0)) (XX (PoC G skC σ0) (Aw G.2.2.2 skC.1 sz) (rvI r0)) 6 36 (Aw G.2.2.2 skC.1 sz) := by
  refine mkMetX (by decide +kernel) (Nat.le_of_ble_eq_true rfl) skC_ok ?_
  intro p e s m below meth c ls E hW hl hr hlk ht
  have hl : lv_has ls 7 [(0, .ref (G.2.2.2 + q0)), (1, .int a1), (2, .int a2), (3, .int a3)] := hl
  generalize Aw G.2.2.2 skC.1 s.heap.size = A0 at E hW ⊢
  generalize ([.ref (G.2.2.2 + q0), .int a1, .int a2, .int a3] : List Value).toArray = args
  unfold f_X6_reason at h
  refine lv_iload_n E.1 E.2.1 dX6_reason_0 rfl (lv_at hl 1 rfl) ?_
  obtain ⟨r3, σ1, c2, hE, hN⟩ := obx_r2 h
  refine c_SX (As := [.int a1]) (rest := []) E hW (m_X6_requireIndex hl9 c2) kw_641 ws_X6_requireIndex yo_X6_requireIndex ⟨rfl, rfl⟩ ⟨(Nat.le_of_ble_eq_true rfl), (Nat.le_of_ble_eq_true rfl)⟩ (lv_size hl) (Nat.le_of_ble_eq_true rfl) ⟨(Nat.le_of_ble_eq_true rfl), (Nat.le_of_ble_eq_true rfl)⟩ rfl dX6_reason_1 (fun ex ce q9 H locs hrv hW h1 h2 h3 => ?_) (fun v9 H locs hrv hW => ?_)
  · exact x_outI hW ht hlk h1 h2 h3 (hE ex (rvV_inl hrv)) (Nat.le_of_ble_eq_true rfl) (Nat.le_of_ble_eq_true rfl)
  obtain ⟨-, qv, h⟩ := rvV_inr hrv hN
  subst qv
  refine W.eq (g2 := F0 m 4 ls []) rfl ?_
  refine lv_iload_n E.1 E.2.1 dX6_reason_4 rfl (lv_at hl 2 rfl) ?_
  obtain ⟨r6, σ4, c5, hE, hN⟩ := obx_r2 h
  refine c_SX (As := [.int a2]) (rest := []) E hW (m_X6_requireIndex hl9 c5) kw_641 ws_X6_requireIndex yo_X6_requireIndex ⟨rfl, rfl⟩ ⟨(Nat.le_of_ble_eq_true rfl), (Nat.le_of_ble_eq_true rfl)⟩ (lv_size hl) (Nat.le_of_ble_eq_true rfl) ⟨(Nat.le_of_ble_eq_true rfl), (Nat.le_of_ble_eq_true rfl)⟩ rfl dX6_reason_5 (fun ex ce q9 H locs hrv hW h1 h2 h3 => ?_) (fun v9 H locs hrv hW => ?_)
  · exact x_outI hW ht hlk h1 h2 h3 (hE ex (rvV_inl hrv)) (Nat.le_of_ble_eq_true rfl) (Nat.le_of_ble_eq_true rfl)
  obtain ⟨-, qv, h⟩ := rvV_inr hrv hN
  subst qv
  refine W.eq (g2 := F0 m 8 ls []) rfl ?_
  refine lv_iload_n E.1 E.2.1 dX6_reason_8 rfl (lv_at hl 3 rfl) ?_
  obtain ⟨r9, σ7, c8, hE, hN⟩ := obx_r2 h
  refine c_SX (As := [.int a3]) (rest := []) E hW (m_X6_requireIndex hl9 c8) kw_641 ws_X6_requireIndex yo_X6_requireIndex ⟨rfl, rfl⟩ ⟨(Nat.le_of_ble_eq_true rfl), (Nat.le_of_ble_eq_true rfl)⟩ (lv_size hl) (Nat.le_of_ble_eq_true rfl) ⟨(Nat.le_of_ble_eq_true rfl), (Nat.le_of_ble_eq_true rfl)⟩ rfl dX6_reason_9 (fun ex ce q9 H locs hrv hW h1 h2 h3 => ?_) (fun v9 H locs hrv hW => ?_)
  · exact x_outI hW ht hlk h1 h2 h3 (hE ex (rvV_inl hrv)) (Nat.le_of_ble_eq_true rfl) (Nat.le_of_ble_eq_true rfl)
  obtain ⟨-, qv, h⟩ := rvV_inr hrv hN
  subst qv
  refine W.eq (g2 := F0 m 12 ls []) rfl ?_
  refine lv_aload_n E.1 E.2.1 dX6_reason_12 rfl (lv_at hl 0 rfl) ?_
  refine lv_iload_n E.1 E.2.1 dX6_reason_13 rfl (lv_at hl 1 rfl) ?_
  obtain ⟨g10, h⟩ := gd_r h
  obtain ⟨r14, σ11, c13, hE, hN⟩ := obx_r2 h
  refine c_VX (As := [.int a1]) (rest := []) E hW (m_X6_requireDefined hl9 c13) g10 rfl kw_660 wv_X6_requireDefined yo_X6_requireDefined ⟨rfl, rfl⟩ ⟨(Nat.le_of_ble_eq_true rfl), (Nat.le_of_ble_eq_true rfl)⟩ (lv_size hl) (Nat.le_of_ble_eq_true rfl) ⟨(Nat.le_of_ble_eq_true rfl), (Nat.le_of_ble_eq_true rfl)⟩ rfl dX6_reason_14 (fun ex ce q9 H locs hrv hW h1 h2 h3 => ?_) (fun v9 H locs hrv hW => ?_)
  · exact x_outI hW ht hlk h1 h2 h3 (hE ex (rvR_inl hrv)) (Nat.le_of_ble_eq_true rfl) (Nat.le_of_ble_eq_true rfl)
  obtain ⟨q12, qv, h⟩ := rvR_inr hrv hN
  subst qv
  refine W.eq (g2 := F0 m 17 ls [.ref (G.2.2.2 + q12)]) rfl ?_
  refine lv_astore (lv' := [(4, .ref (G.2.2.2 + q12)), (0, .ref (G.2.2.2 + q0)), (1, .int a1), (2, .int a2), (3, .int a3)]) E.1 E.2.1 dX6_reason_17 hl (by decide) rfl (fun ls hl => ?_)
  refine lv_aload_n E.1 E.2.1 dX6_reason_19 rfl (lv_at hl 1 rfl) ?_
  refine lv_iload_n E.1 E.2.1 dX6_reason_20 rfl (lv_at hl 3 rfl) ?_
  obtain ⟨r18, σ15, c17, hE, hN⟩ := obx_r2 h
  refine c_VX (As := [.int a2]) (rest := []) E hW (m_X6_requireDefined hl9 c17) g10 rfl kw_660 wv_X6_requireDefined yo_X6_requireDefined ⟨rfl, rfl⟩ ⟨(Nat.le_of_ble_eq_true rfl), (Nat.le_of_ble_eq_true rfl)⟩ (lv_size hl) (Nat.le_of_ble_eq_true rfl) ⟨(Nat.le_of_ble_eq_true rfl), (Nat.le_of_ble_eq_true rfl)⟩ rfl dX6_reason_21 (fun ex ce q9 H locs hrv hW h1 h2 h3 => ?_) (fun v9 H locs hrv hW => ?_)
  · exact x_outI hW ht hlk h1 h2 h3 (hE ex (rvR_inl hrv)) (Nat.le_of_ble_eq_true rfl) (Nat.le_of_ble_eq_true rfl)
  obtain ⟨q16, qv, h⟩ := rvR_inr hrv hN
  subst qv
  refine W.eq (g2 := F0 m 24 ls [.ref (G.2.2.2 + q16)]) rfl ?_
  refine lv_astore (lv' := [(5, .ref (G.2.2.2 + q16)), (4, .ref (G.2.2.2 + q12)), (0, .ref (G.2.2.2 + q0)), (1, .int a1), (2, .int a2), (3, .int a3)]) E.1 E.2.1 dX6_reason_24 hl (by decide) rfl (fun ls hl => ?_)
  refine lv_aload_n E.1 E.2.1 dX6_reason_26 rfl (lv_at hl 2 rfl) ?_
  refine lv_iload_n E.1 E.2.1 dX6_reason_27 rfl (lv_at hl 5 rfl) ?_
  obtain ⟨r22, σ19, c21, hE, hN⟩ := obx_r2 h
  refine c_VX (As := [.int a3]) (rest := []) E hW (m_X6_requireDefined hl9 c21) g10 rfl kw_660 wv_X6_requireDefined yo_X6_requireDefined ⟨rfl, rfl⟩ ⟨(Nat.le_of_ble_eq_true rfl), (Nat.le_of_ble_eq_true rfl)⟩ (lv_size hl) (Nat.le_of_ble_eq_true rfl) ⟨(Nat.le_of_ble_eq_true rfl), (Nat.le_of_ble_eq_true rfl)⟩ rfl dX6_reason_28 (fun ex ce q9 H locs hrv hW h1 h2 h3 => ?_) (fun v9 H locs hrv hW => ?_)
  · exact x_outI hW ht hlk h1 h2 h3 (hE ex (rvR_inl hrv)) (Nat.le_of_ble_eq_true rfl) (Nat.le_of_ble_eq_true rfl)
  obtain ⟨q20, qv, h⟩ := rvR_inr hrv hN
  subst qv
  refine W.eq (g2 := F0 m 31 ls [.ref (G.2.2.2 + q20)]) rfl ?_
  refine lv_astore (lv' := [(6, .ref (G.2.2.2 + q20)), (5, .ref (G.2.2.2 + q16)), (4, .ref (G.2.2.2 + q12)), (0, .ref (G.2.2.2 + q0)), (1, .int a1), (2, .int a2), (3, .int a3)]) E.1 E.2.1 dX6_reason_31 hl (by decide) rfl (fun ls hl => ?_)
  refine lv_aload E.1 E.2.1 dX6_reason_33 (lv_at hl 1 rfl) ?_
  obtain ⟨g23, h⟩ := gd_r h
  obtain ⟨x25, σ24, c26, h⟩ := obn_r h
  refine c_V (As := []) (rest := []) E hW (m_X2_staysInSquare c26) g23 rfl kw_768 wv_X2_staysInSquare yo_X2_staysInSquare ⟨rfl, rfl⟩ ⟨(Nat.le_of_ble_eq_true rfl), (Nat.le_of_ble_eq_true rfl)⟩ (lv_size hl) (Nat.le_of_ble_eq_true rfl) ⟨(Nat.le_of_ble_eq_true rfl), (Nat.le_of_ble_eq_true rfl)⟩ rfl dX6_reason_35 (fun H locs hW => ?_)
  refine W.eq (g2 := F0 m 38 ls [.int x25]) rfl ?_
  refine lv_if_ne (tgt := 43) E.1 E.2.1 dX6_reason_38 (by decide) (fun g => ?_) (fun g => ?_)
  · have h := ifn h g
    refine lv_aload E.1 E.2.1 dX6_reason_43 (lv_at hl 0 rfl) ?_
    obtain ⟨g27, h⟩ := gd_r h
    obtain ⟨x29, σ28, c30, h⟩ := obn_r h
    refine c_V (As := []) (rest := []) E hW (m_X2_staysInSquare c30) g27 rfl kw_768 wv_X2_staysInSquare yo_X2_staysInSquare ⟨rfl, rfl⟩ ⟨(Nat.le_of_ble_eq_true rfl), (Nat.le_of_ble_eq_true rfl)⟩ (lv_size hl) (Nat.le_of_ble_eq_true rfl) ⟨(Nat.le_of_ble_eq_true rfl), (Nat.le_of_ble_eq_true rfl)⟩ rfl dX6_reason_45 (fun H locs hW => ?_)
    refine W.eq (g2 := F0 m 48 ls [.int x29]) rfl ?_
    refine lv_if_ne (tgt := 53) E.1 E.2.1 dX6_reason_48 (by decide) (fun g => ?_) (fun g => ?_)
    · have h := ifn h g
      refine lv_aload_n E.1 E.2.1 dX6_reason_53 rfl (lv_at hl 3 rfl) ?_
      refine gf_X6_26 E hW g10 dX6_reason_54 ?_
      refine lv_aload_n E.1 E.2.1 dX6_reason_57 rfl (lv_at hl 3 rfl) ?_
      refine gf_X6_40 E hW g10 dX6_reason_58 ?_
      refine lv_aload E.1 E.2.1 dX6_reason_61 (lv_at hl 2 rfl) ?_
      refine lv_aload E.1 E.2.1 dX6_reason_63 (lv_at hl 1 rfl) ?_
      refine lv_aload E.1 E.2.1 dX6_reason_65 (lv_at hl 0 rfl) ?_
      obtain ⟨g31, h⟩ := gd_r h
      obtain ⟨x33, σ32, c34, h⟩ := obn_r h
      refine c_V (As := [.ref (G.2.2.2 + (rC q0 4)), .ref (G.2.2.2 + q12), .ref (G.2.2.2 + q16), .ref (G.2.2.2 + q20)]) (rest := []) E hW (m_X0_composeModels c34) g31 rfl kw_769 wv_X0_composeModels yo_X0_composeModels ⟨rfl, rfl⟩ ⟨(Nat.le_of_ble_eq_true rfl), (Nat.le_of_ble_eq_true rfl)⟩ (lv_size hl) (Nat.le_of_ble_eq_true rfl) ⟨(Nat.le_of_ble_eq_true rfl), (Nat.le_of_ble_eq_true rfl)⟩ rfl dX6_reason_67 (fun H locs hW => ?_)
      refine W.eq (g2 := F0 m 70 ls [.int x33]) rfl ?_
      refine lv_if_eq (tgt := 77) E.1 E.2.1 dX6_reason_70 (by decide) (fun g => ?_) (fun g => ?_)
      · have h := ifp h g
        refine lv_iconst (v := (3 : Int32)) E.1 E.2.1 dX6_reason_77 (by decide) ?_
        exact x_i E hW hr hlk h (Nat.le_of_ble_eq_true rfl) (Nat.le_of_ble_eq_true rfl) dX6_reason_78
      · have h := ifn h g
        refine lv_iconst (v := (0 : Int32)) E.1 E.2.1 dX6_reason_73 (by decide) ?_
        refine lv_goto (tgt := 78) E.1 E.2.1 dX6_reason_74 (by decide) ?_
        exact x_i E hW hr hlk h (Nat.le_of_ble_eq_true rfl) (Nat.le_of_ble_eq_true rfl) dX6_reason_78
    · have h := ifp h g
      refine lv_iconst (v := (2 : Int32)) E.1 E.2.1 dX6_reason_51 (by decide) ?_
      exact x_i E hW hr hlk h (Nat.le_of_ble_eq_true rfl) (Nat.le_of_ble_eq_true rfl) dX6_reason_52
  · have h := ifp h g
    refine lv_iconst (v := (1 : Int32)) E.1 E.2.1 dX6_reason_41 (by decide) ?_
    exact x_i E hW hr hlk h (Nat.le_of_ble_eq_true rfl) (Nat.le_of_ble_eq_true rfl) dX6_reason_42
set_option maxHeartbeats 4000000 in
set_option maxRecDepth 100000 in
theorem m_X6_settle {l : Launch} {G : GP} {sz : Nat} {q0 : Nat} {a1 : Int32} {a2 : Int32} {σ σ0 : St} {r0 : (Nat ⊕ Int32)} (hl9 : l.stackTraces = false) (h : f_X6_settle q0 a1 a2 σ = some (r0, σ0)) : vx_Met l yX6_settle [.code yX6_settle cX6_settle 3 (some .int)] ({ frames := 6, cells := 1, slots := 6, locals := 124 } : Room) (va_Pc [.ref (G.2.2.2 + q0), .int a1, .int a2] (PreC G skC sz σ)) (QX (PoC G skC σ0) (Aw G.2.2.2 skC.1 sz) (rvI r0)) (XX (PoC G skC σ0) (Aw G.2.2.2 skC.1 sz) (rvI r0)) 1 6 (Aw G.2.2.2 skC.1 sz) := by
  refine mkMetX (by decide +kernel) (Nat.le_of_ble_eq_true rfl) skC_ok ?_
  intro p e s m below meth c ls E hW hl hr hlk ht
  have hl : lv_has ls 3 [(0, .ref (G.2.2.2 + q0)), (1, .int a1), (2, .int a2)] := hl
  generalize Aw G.2.2.2 skC.1 s.heap.size = A0 at E hW ⊢
  generalize ([.ref (G.2.2.2 + q0), .int a1, .int a2] : List Value).toArray = args
  unfold f_X6_settle at h
  refine lv_iload_n E.1 E.2.1 dX6_settle_0 rfl (lv_at hl 2 rfl) ?_
  refine lv_if_ne (tgt := 14) E.1 E.2.1 dX6_settle_1 (by decide) (fun g => ?_) (fun g => ?_)
  · have h := ifn h g
    refine lv_aload_n E.1 E.2.1 dX6_settle_14 rfl (lv_at hl 0 rfl) ?_
    obtain ⟨g1, h⟩ := gd_r h
    refine gf_X6_19 E hW g1 dX6_settle_15 ?_
    refine lv_aload_n E.1 E.2.1 dX6_settle_18 rfl (lv_at hl 0 rfl) ?_
    refine gf_X6_10 E hW g1 dX6_settle_19 ?_
    obtain ⟨g2, h⟩ := gd_r h
    obtain ⟨_r, σ3, c4, h⟩ := obn_r h
    refine c_V (As := [.ref (G.2.2.2 + (rC q0 0))]) (rest := []) E hW (m_X1_remember c4) g2 rfl kw_616 wv_X1_remember yo_X1_remember ⟨rfl, rfl⟩ ⟨(Nat.le_of_ble_eq_true rfl), (Nat.le_of_ble_eq_true rfl)⟩ (lv_size hl) (Nat.le_of_ble_eq_true rfl) ⟨(Nat.le_of_ble_eq_true rfl), (Nat.le_of_ble_eq_true rfl)⟩ rfl dX6_settle_22 (fun H locs hW => ?_)
    refine W.eq (g2 := F0 m 25 ls []) rfl ?_
    refine lv_aload_n E.1 E.2.1 dX6_settle_25 rfl (lv_at hl 0 rfl) ?_
    refine gf_X6_10 E hW g1 dX6_settle_26 ?_
    refine lv_iload_n E.1 E.2.1 dX6_settle_29 rfl (lv_at hl 1 rfl) ?_
    refine lv_aload_n E.1 E.2.1 dX6_settle_30 rfl (lv_at hl 0 rfl) ?_
    refine gf_X6_40 E hW g1 dX6_settle_31 ?_
    obtain ⟨g5, h⟩ := gd_r h
    obtain ⟨_r, σ6, c7, h⟩ := obn_r h
    refine c_V (As := [.int a1, .ref (G.2.2.2 + (rC q0 4))]) (rest := []) E hW (m_X3_define c7) g5 rfl kw_799 wv_X3_define yo_X3_define ⟨rfl, rfl⟩ ⟨(Nat.le_of_ble_eq_true rfl), (Nat.le_of_ble_eq_true rfl)⟩ (lv_size hl) (Nat.le_of_ble_eq_true rfl) ⟨(Nat.le_of_ble_eq_true rfl), (Nat.le_of_ble_eq_true rfl)⟩ rfl dX6_settle_34 (fun H locs hW => ?_)
    refine W.eq (g2 := F0 m 37 ls []) rfl ?_
    refine lv_aload_n E.1 E.2.1 dX6_settle_37 rfl (lv_at hl 0 rfl) ?_
    refine gf_X6_40 E hW g1 dX6_settle_38 ?_
    obtain ⟨g8, h⟩ := gd_r h
    obtain ⟨x10, σ9, c11, h⟩ := obn_r h
    refine c_V (As := []) (rest := []) E hW (m_X2_width c11) g8 rfl kw_800 wv_X2_width yo_X2_width ⟨rfl, rfl⟩ ⟨(Nat.le_of_ble_eq_true rfl), (Nat.le_of_ble_eq_true rfl)⟩ (lv_size hl) (Nat.le_of_ble_eq_true rfl) ⟨(Nat.le_of_ble_eq_true rfl), (Nat.le_of_ble_eq_true rfl)⟩ rfl dX6_settle_41 (fun H locs hW => ?_)
    refine W.eq (g2 := F0 m 44 ls [.int x10]) rfl ?_
    exact x_i E hW hr hlk h (Nat.le_of_ble_eq_true rfl) (Nat.le_of_ble_eq_true rfl) dX6_settle_44
  · have h := ifp h g
    exact x_throw E hW hl9 16 4 (by decide) ⟨rfl, rfl⟩ (by decide +kernel) kw_783 kw_23 tx_X6_255 ht hlk (x_inI h) (some_r h).2 (Nat.le_of_ble_eq_true rfl) (Nat.le_of_ble_eq_true rfl) (Nat.le_of_ble_eq_true rfl) (Nat.le_of_ble_eq_true rfl) (Nat.le_of_ble_eq_true rfl) (Nat.le_of_ble_eq_true rfl) (lv_size hl) dX6_settle_4 dX6_settle_7 dX6_settle_8 dX6_settle_10 dX6_settle_13
set_option maxHeartbeats 4000000 in
set_option maxRecDepth 100000 in
theorem m_X6_add {l : Launch} {G : GP} {sz : Nat} {q0 : Nat} {a1 : Int32} {a2 : Int32} {a3 : Int32} {σ σ0 : St} {r0 : (Nat ⊕ Int32)} (hl9 : l.stackTraces = false) (h : f_X6_add q0 a1 a2 a3 σ = some (r0, σ0)) : vx_Met l yX6_add [.code yX6_add cX6_add 6 (some .int)] ({ frames := 7, cells := 6, slots := 36, locals := 146 } : Room) (va_Pc [.ref (G.2.2.2 + q0), .int a1, .int a2, .int a3] (PreC G skC sz σ)) (QX (PoC G skC σ0) (Aw G.2.2.2 skC.1 sz) (rvI r0)) (XX (PoC G skC σ0) (Aw G.2.2.2 skC.1 sz) (rvI r0)) 6 36 (Aw G.2.2.2 skC.1 sz) := by
  refine mkMetX (by decide +kernel) (Nat.le_of_ble_eq_true rfl) skC_ok ?_
  intro p e s m below meth c ls E hW hl hr hlk ht
  have hl : lv_has ls 6 [(0, .ref (G.2.2.2 + q0)), (1, .int a1), (2, .int a2), (3, .int a3)] := hl
  generalize Aw G.2.2.2 skC.1 s.heap.size = A0 at E hW ⊢
  generalize ([.ref (G.2.2.2 + q0), .int a1, .int a2, .int a3] : List Value).toArray = args
  unfold f_X6_add at h
  refine lv_iload_n E.1 E.2.1 dX6_add_0 rfl (lv_at hl 1 rfl) ?_
  obtain ⟨r3, σ1, c2, hE, hN⟩ := obx_r2 h
  refine c_SX (As := [.int a1]) (rest := []) E hW (m_X6_requireIndex hl9 c2) kw_641 ws_X6_requireIndex yo_X6_requireIndex ⟨rfl, rfl⟩ ⟨(Nat.le_of_ble_eq_true rfl), (Nat.le_of_ble_eq_true rfl)⟩ (lv_size hl) (Nat.le_of_ble_eq_true rfl) ⟨(Nat.le_of_ble_eq_true rfl), (Nat.le_of_ble_eq_true rfl)⟩ rfl dX6_add_1 (fun ex ce q9 H locs hrv hW h1 h2 h3 => ?_) (fun v9 H locs hrv hW => ?_)
  · exact x_outI hW ht hlk h1 h2 h3 (hE ex (rvV_inl hrv)) (Nat.le_of_ble_eq_true rfl) (Nat.le_of_ble_eq_true rfl)
  obtain ⟨-, qv, h⟩ := rvV_inr hrv hN
  subst qv
  refine W.eq (g2 := F0 m 4 ls []) rfl ?_
  refine lv_iload_n E.1 E.2.1 dX6_add_4 rfl (lv_at hl 2 rfl) ?_
  obtain ⟨r6, σ4, c5, hE, hN⟩ := obx_r2 h
  refine c_SX (As := [.int a2]) (rest := []) E hW (m_X6_requireIndex hl9 c5) kw_641 ws_X6_requireIndex yo_X6_requireIndex ⟨rfl, rfl⟩ ⟨(Nat.le_of_ble_eq_true rfl), (Nat.le_of_ble_eq_true rfl)⟩ (lv_size hl) (Nat.le_of_ble_eq_true rfl) ⟨(Nat.le_of_ble_eq_true rfl), (Nat.le_of_ble_eq_true rfl)⟩ rfl dX6_add_5 (fun ex ce q9 H locs hrv hW h1 h2 h3 => ?_) (fun v9 H locs hrv hW => ?_)
  · exact x_outI hW ht hlk h1 h2 h3 (hE ex (rvV_inl hrv)) (Nat.le_of_ble_eq_true rfl) (Nat.le_of_ble_eq_true rfl)
  obtain ⟨-, qv, h⟩ := rvV_inr hrv hN
  subst qv
  refine W.eq (g2 := F0 m 8 ls []) rfl ?_
  refine lv_iload_n E.1 E.2.1 dX6_add_8 rfl (lv_at hl 3 rfl) ?_
  obtain ⟨r9, σ7, c8, hE, hN⟩ := obx_r2 h
  refine c_SX (As := [.int a3]) (rest := []) E hW (m_X6_requireIndex hl9 c8) kw_641 ws_X6_requireIndex yo_X6_requireIndex ⟨rfl, rfl⟩ ⟨(Nat.le_of_ble_eq_true rfl), (Nat.le_of_ble_eq_true rfl)⟩ (lv_size hl) (Nat.le_of_ble_eq_true rfl) ⟨(Nat.le_of_ble_eq_true rfl), (Nat.le_of_ble_eq_true rfl)⟩ rfl dX6_add_9 (fun ex ce q9 H locs hrv hW h1 h2 h3 => ?_) (fun v9 H locs hrv hW => ?_)
  · exact x_outI hW ht hlk h1 h2 h3 (hE ex (rvV_inl hrv)) (Nat.le_of_ble_eq_true rfl) (Nat.le_of_ble_eq_true rfl)
  obtain ⟨-, qv, h⟩ := rvV_inr hrv hN
  subst qv
  refine W.eq (g2 := F0 m 12 ls []) rfl ?_
  refine lv_aload_n E.1 E.2.1 dX6_add_12 rfl (lv_at hl 0 rfl) ?_
  refine lv_iload_n E.1 E.2.1 dX6_add_13 rfl (lv_at hl 2 rfl) ?_
  obtain ⟨g10, h⟩ := gd_r h
  obtain ⟨r14, σ11, c13, hE, hN⟩ := obx_r2 h
  refine c_VX (As := [.int a2]) (rest := []) E hW (m_X6_requireDefined hl9 c13) g10 rfl kw_660 wv_X6_requireDefined yo_X6_requireDefined ⟨rfl, rfl⟩ ⟨(Nat.le_of_ble_eq_true rfl), (Nat.le_of_ble_eq_true rfl)⟩ (lv_size hl) (Nat.le_of_ble_eq_true rfl) ⟨(Nat.le_of_ble_eq_true rfl), (Nat.le_of_ble_eq_true rfl)⟩ rfl dX6_add_14 (fun ex ce q9 H locs hrv hW h1 h2 h3 => ?_) (fun v9 H locs hrv hW => ?_)
  · exact x_outI hW ht hlk h1 h2 h3 (hE ex (rvR_inl hrv)) (Nat.le_of_ble_eq_true rfl) (Nat.le_of_ble_eq_true rfl)
  obtain ⟨q12, qv, h⟩ := rvR_inr hrv hN
  subst qv
  refine W.eq (g2 := F0 m 17 ls [.ref (G.2.2.2 + q12)]) rfl ?_
  refine lv_astore (lv' := [(4, .ref (G.2.2.2 + q12)), (0, .ref (G.2.2.2 + q0)), (1, .int a1), (2, .int a2), (3, .int a3)]) E.1 E.2.1 dX6_add_17 hl (by decide) rfl (fun ls hl => ?_)
  refine lv_aload_n E.1 E.2.1 dX6_add_19 rfl (lv_at hl 1 rfl) ?_
  refine lv_iload_n E.1 E.2.1 dX6_add_20 rfl (lv_at hl 4 rfl) ?_
  obtain ⟨r18, σ15, c17, hE, hN⟩ := obx_r2 h
  refine c_VX (As := [.int a3]) (rest := []) E hW (m_X6_requireDefined hl9 c17) g10 rfl kw_660 wv_X6_requireDefined yo_X6_requireDefined ⟨rfl, rfl⟩ ⟨(Nat.le_of_ble_eq_true rfl), (Nat.le_of_ble_eq_true rfl)⟩ (lv_size hl) (Nat.le_of_ble_eq_true rfl) ⟨(Nat.le_of_ble_eq_true rfl), (Nat.le_of_ble_eq_true rfl)⟩ rfl dX6_add_21 (fun ex ce q9 H locs hrv hW h1 h2 h3 => ?_) (fun v9 H locs hrv hW => ?_)
  · exact x_outI hW ht hlk h1 h2 h3 (hE ex (rvR_inl hrv)) (Nat.le_of_ble_eq_true rfl) (Nat.le_of_ble_eq_true rfl)
  obtain ⟨q16, qv, h⟩ := rvR_inr hrv hN
  subst qv
  refine W.eq (g2 := F0 m 24 ls [.ref (G.2.2.2 + q16)]) rfl ?_
  refine lv_astore (lv' := [(5, .ref (G.2.2.2 + q16)), (4, .ref (G.2.2.2 + q12)), (0, .ref (G.2.2.2 + q0)), (1, .int a1), (2, .int a2), (3, .int a3)]) E.1 E.2.1 dX6_add_24 hl (by decide) rfl (fun ls hl => ?_)
  refine lv_aload_n E.1 E.2.1 dX6_add_26 rfl (lv_at hl 2 rfl) ?_
  refine lv_iload_n E.1 E.2.1 dX6_add_27 rfl (lv_at hl 3 rfl) ?_
  refine lv_aload_n E.1 E.2.1 dX6_add_28 rfl (lv_at hl 2 rfl) ?_
  refine gf_X6_26 E hW g10 dX6_add_29 ?_
  refine lv_aload_n E.1 E.2.1 dX6_add_32 rfl (lv_at hl 2 rfl) ?_
  refine gf_X6_40 E hW g10 dX6_add_33 ?_
  refine lv_aload E.1 E.2.1 dX6_add_36 (lv_at hl 1 rfl) ?_
  refine lv_aload E.1 E.2.1 dX6_add_38 (lv_at hl 0 rfl) ?_
  obtain ⟨g19, h⟩ := gd_r h
  obtain ⟨x21, σ20, c22, h⟩ := obn_r h
  refine c_V (As := [.ref (G.2.2.2 + (rC q0 4)), .ref (G.2.2.2 + q12), .ref (G.2.2.2 + q16)]) (rest := [.int a1, .ref (G.2.2.2 + q0)]) E hW (m_X0_addModels c22) g19 rfl kw_778 wv_X0_addModels yo_X0_addModels ⟨rfl, rfl⟩ ⟨(Nat.le_of_ble_eq_true rfl), (Nat.le_of_ble_eq_true rfl)⟩ (lv_size hl) (Nat.le_of_ble_eq_true rfl) ⟨(Nat.le_of_ble_eq_true rfl), (Nat.le_of_ble_eq_true rfl)⟩ rfl dX6_add_40 (fun H locs hW => ?_)
  refine W.eq (g2 := F0 m 43 ls [.int x21, .int a1, .ref (G.2.2.2 + q0)]) rfl ?_
  obtain ⟨r26, σ23, c25, hE, hN⟩ := obx_r2 h
  refine c_VX (As := [.int a1, .int x21]) (rest := []) E hW (m_X6_settle hl9 c25) g10 rfl kw_779 wv_X6_settle yo_X6_settle ⟨rfl, rfl⟩ ⟨(Nat.le_of_ble_eq_true rfl), (Nat.le_of_ble_eq_true rfl)⟩ (lv_size hl) (Nat.le_of_ble_eq_true rfl) ⟨(Nat.le_of_ble_eq_true rfl), (Nat.le_of_ble_eq_true rfl)⟩ rfl dX6_add_43 (fun ex ce q9 H locs hrv hW h1 h2 h3 => ?_) (fun v9 H locs hrv hW => ?_)
  · exact x_outI hW ht hlk h1 h2 h3 (hE ex (rvI_inl hrv)) (Nat.le_of_ble_eq_true rfl) (Nat.le_of_ble_eq_true rfl)
  obtain ⟨x24, qv, h⟩ := rvI_inr hrv hN
  subst qv
  refine W.eq (g2 := F0 m 46 ls [.int x24]) rfl ?_
  exact x_i E hW hr hlk h (Nat.le_of_ble_eq_true rfl) (Nat.le_of_ble_eq_true rfl) dX6_add_46
set_option maxHeartbeats 4000000 in
set_option maxRecDepth 100000 in
theorem m_X6_subtract {l : Launch} {G : GP} {sz : Nat} {q0 : Nat} {a1 : Int32} {a2 : Int32} {a3 : Int32} {σ σ0 : St} {r0 : (Nat ⊕ Int32)} (hl9 : l.stackTraces = false) (h : f_X6_subtract q0 a1 a2 a3 σ = some (r0, σ0)) : vx_Met l yX6_subtract [.code yX6_subtract cX6_subtract 6 (some .int)] ({ frames := 7, cells := 6, slots := 36, locals := 146 } : Room) (va_Pc [.ref (G.2.2.2 + q0), .int a1, .int a2, .int a3] (PreC G skC sz σ)) (QX (PoC G skC σ0) (Aw G.2.2.2 skC.1 sz) (rvI r0)) (XX (PoC G skC σ0) (Aw G.2.2.2 skC.1 sz) (rvI r0)) 6 36 (Aw G.2.2.2 skC.1 sz) := by
  refine mkMetX (by decide +kernel) (Nat.le_of_ble_eq_true rfl) skC_ok ?_
  intro p e s m below meth c ls E hW hl hr hlk ht
  have hl : lv_has ls 6 [(0, .ref (G.2.2.2 + q0)), (1, .int a1), (2, .int a2), (3, .int a3)] := hl
  generalize Aw G.2.2.2 skC.1 s.heap.size = A0 at E hW ⊢
  generalize ([.ref (G.2.2.2 + q0), .int a1, .int a2, .int a3] : List Value).toArray = args
  unfold f_X6_subtract at h
  refine lv_iload_n E.1 E.2.1 dX6_subtract_0 rfl (lv_at hl 1 rfl) ?_
  obtain ⟨r3, σ1, c2, hE, hN⟩ := obx_r2 h
  refine c_SX (As := [.int a1]) (rest := []) E hW (m_X6_requireIndex hl9 c2) kw_641 ws_X6_requireIndex yo_X6_requireIndex ⟨rfl, rfl⟩ ⟨(Nat.le_of_ble_eq_true rfl), (Nat.le_of_ble_eq_true rfl)⟩ (lv_size hl) (Nat.le_of_ble_eq_true rfl) ⟨(Nat.le_of_ble_eq_true rfl), (Nat.le_of_ble_eq_true rfl)⟩ rfl dX6_subtract_1 (fun ex ce q9 H locs hrv hW h1 h2 h3 => ?_) (fun v9 H locs hrv hW => ?_)
  · exact x_outI hW ht hlk h1 h2 h3 (hE ex (rvV_inl hrv)) (Nat.le_of_ble_eq_true rfl) (Nat.le_of_ble_eq_true rfl)
  obtain ⟨-, qv, h⟩ := rvV_inr hrv hN
  subst qv
  refine W.eq (g2 := F0 m 4 ls []) rfl ?_
  refine lv_iload_n E.1 E.2.1 dX6_subtract_4 rfl (lv_at hl 2 rfl) ?_
  obtain ⟨r6, σ4, c5, hE, hN⟩ := obx_r2 h
  refine c_SX (As := [.int a2]) (rest := []) E hW (m_X6_requireIndex hl9 c5) kw_641 ws_X6_requireIndex yo_X6_requireIndex ⟨rfl, rfl⟩ ⟨(Nat.le_of_ble_eq_true rfl), (Nat.le_of_ble_eq_true rfl)⟩ (lv_size hl) (Nat.le_of_ble_eq_true rfl) ⟨(Nat.le_of_ble_eq_true rfl), (Nat.le_of_ble_eq_true rfl)⟩ rfl dX6_subtract_5 (fun ex ce q9 H locs hrv hW h1 h2 h3 => ?_) (fun v9 H locs hrv hW => ?_)
  · exact x_outI hW ht hlk h1 h2 h3 (hE ex (rvV_inl hrv)) (Nat.le_of_ble_eq_true rfl) (Nat.le_of_ble_eq_true rfl)
  obtain ⟨-, qv, h⟩ := rvV_inr hrv hN
  subst qv
  refine W.eq (g2 := F0 m 8 ls []) rfl ?_
  refine lv_iload_n E.1 E.2.1 dX6_subtract_8 rfl (lv_at hl 3 rfl) ?_
  obtain ⟨r9, σ7, c8, hE, hN⟩ := obx_r2 h
  refine c_SX (As := [.int a3]) (rest := []) E hW (m_X6_requireIndex hl9 c8) kw_641 ws_X6_requireIndex yo_X6_requireIndex ⟨rfl, rfl⟩ ⟨(Nat.le_of_ble_eq_true rfl), (Nat.le_of_ble_eq_true rfl)⟩ (lv_size hl) (Nat.le_of_ble_eq_true rfl) ⟨(Nat.le_of_ble_eq_true rfl), (Nat.le_of_ble_eq_true rfl)⟩ rfl dX6_subtract_9 (fun ex ce q9 H locs hrv hW h1 h2 h3 => ?_) (fun v9 H locs hrv hW => ?_)
  · exact x_outI hW ht hlk h1 h2 h3 (hE ex (rvV_inl hrv)) (Nat.le_of_ble_eq_true rfl) (Nat.le_of_ble_eq_true rfl)
  obtain ⟨-, qv, h⟩ := rvV_inr hrv hN
  subst qv
  refine W.eq (g2 := F0 m 12 ls []) rfl ?_
  refine lv_aload_n E.1 E.2.1 dX6_subtract_12 rfl (lv_at hl 0 rfl) ?_
  refine lv_iload_n E.1 E.2.1 dX6_subtract_13 rfl (lv_at hl 2 rfl) ?_
  obtain ⟨g10, h⟩ := gd_r h
  obtain ⟨r14, σ11, c13, hE, hN⟩ := obx_r2 h
  refine c_VX (As := [.int a2]) (rest := []) E hW (m_X6_requireDefined hl9 c13) g10 rfl kw_660 wv_X6_requireDefined yo_X6_requireDefined ⟨rfl, rfl⟩ ⟨(Nat.le_of_ble_eq_true rfl), (Nat.le_of_ble_eq_true rfl)⟩ (lv_size hl) (Nat.le_of_ble_eq_true rfl) ⟨(Nat.le_of_ble_eq_true rfl), (Nat.le_of_ble_eq_true rfl)⟩ rfl dX6_subtract_14 (fun ex ce q9 H locs hrv hW h1 h2 h3 => ?_) (fun v9 H locs hrv hW => ?_)
  · exact x_outI hW ht hlk h1 h2 h3 (hE ex (rvR_inl hrv)) (Nat.le_of_ble_eq_true rfl) (Nat.le_of_ble_eq_true rfl)
  obtain ⟨q12, qv, h⟩ := rvR_inr hrv hN
  subst qv
  refine W.eq (g2 := F0 m 17 ls [.ref (G.2.2.2 + q12)]) rfl ?_
  refine lv_astore (lv' := [(4, .ref (G.2.2.2 + q12)), (0, .ref (G.2.2.2 + q0)), (1, .int a1), (2, .int a2), (3, .int a3)]) E.1 E.2.1 dX6_subtract_17 hl (by decide) rfl (fun ls hl => ?_)
  refine lv_aload_n E.1 E.2.1 dX6_subtract_19 rfl (lv_at hl 1 rfl) ?_
  refine lv_iload_n E.1 E.2.1 dX6_subtract_20 rfl (lv_at hl 4 rfl) ?_
  obtain ⟨r18, σ15, c17, hE, hN⟩ := obx_r2 h
  refine c_VX (As := [.int a3]) (rest := []) E hW (m_X6_requireDefined hl9 c17) g10 rfl kw_660 wv_X6_requireDefined yo_X6_requireDefined ⟨rfl, rfl⟩ ⟨(Nat.le_of_ble_eq_true rfl), (Nat.le_of_ble_eq_true rfl)⟩ (lv_size hl) (Nat.le_of_ble_eq_true rfl) ⟨(Nat.le_of_ble_eq_true rfl), (Nat.le_of_ble_eq_true rfl)⟩ rfl dX6_subtract_21 (fun ex ce q9 H locs hrv hW h1 h2 h3 => ?_) (fun v9 H locs hrv hW => ?_)
  · exact x_outI hW ht hlk h1 h2 h3 (hE ex (rvR_inl hrv)) (Nat.le_of_ble_eq_true rfl) (Nat.le_of_ble_eq_true rfl)
  obtain ⟨q16, qv, h⟩ := rvR_inr hrv hN
  subst qv
  refine W.eq (g2 := F0 m 24 ls [.ref (G.2.2.2 + q16)]) rfl ?_
  refine lv_astore (lv' := [(5, .ref (G.2.2.2 + q16)), (4, .ref (G.2.2.2 + q12)), (0, .ref (G.2.2.2 + q0)), (1, .int a1), (2, .int a2), (3, .int a3)]) E.1 E.2.1 dX6_subtract_24 hl (by decide) rfl (fun ls hl => ?_)
  refine lv_aload_n E.1 E.2.1 dX6_subtract_26 rfl (lv_at hl 2 rfl) ?_
  refine lv_iload_n E.1 E.2.1 dX6_subtract_27 rfl (lv_at hl 3 rfl) ?_
  refine lv_aload_n E.1 E.2.1 dX6_subtract_28 rfl (lv_at hl 2 rfl) ?_
  refine gf_X6_26 E hW g10 dX6_subtract_29 ?_
  refine lv_aload_n E.1 E.2.1 dX6_subtract_32 rfl (lv_at hl 2 rfl) ?_
  refine gf_X6_40 E hW g10 dX6_subtract_33 ?_
  refine lv_aload E.1 E.2.1 dX6_subtract_36 (lv_at hl 1 rfl) ?_
  refine lv_aload E.1 E.2.1 dX6_subtract_38 (lv_at hl 0 rfl) ?_
  obtain ⟨g19, h⟩ := gd_r h
  obtain ⟨x21, σ20, c22, h⟩ := obn_r h
  refine c_V (As := [.ref (G.2.2.2 + (rC q0 4)), .ref (G.2.2.2 + q12), .ref (G.2.2.2 + q16)]) (rest := [.int a1, .ref (G.2.2.2 + q0)]) E hW (m_X0_subtractModels c22) g19 rfl kw_811 wv_X0_subtractModels yo_X0_subtractModels ⟨rfl, rfl⟩ ⟨(Nat.le_of_ble_eq_true rfl), (Nat.le_of_ble_eq_true rfl)⟩ (lv_size hl) (Nat.le_of_ble_eq_true rfl) ⟨(Nat.le_of_ble_eq_true rfl), (Nat.le_of_ble_eq_true rfl)⟩ rfl dX6_subtract_40 (fun H locs hW => ?_)
  refine W.eq (g2 := F0 m 43 ls [.int x21, .int a1, .ref (G.2.2.2 + q0)]) rfl ?_
  obtain ⟨r26, σ23, c25, hE, hN⟩ := obx_r2 h
  refine c_VX (As := [.int a1, .int x21]) (rest := []) E hW (m_X6_settle hl9 c25) g10 rfl kw_779 wv_X6_settle yo_X6_settle ⟨rfl, rfl⟩ ⟨(Nat.le_of_ble_eq_true rfl), (Nat.le_of_ble_eq_true rfl)⟩ (lv_size hl) (Nat.le_of_ble_eq_true rfl) ⟨(Nat.le_of_ble_eq_true rfl), (Nat.le_of_ble_eq_true rfl)⟩ rfl dX6_subtract_43 (fun ex ce q9 H locs hrv hW h1 h2 h3 => ?_) (fun v9 H locs hrv hW => ?_)
  · exact x_outI hW ht hlk h1 h2 h3 (hE ex (rvI_inl hrv)) (Nat.le_of_ble_eq_true rfl) (Nat.le_of_ble_eq_true rfl)
  obtain ⟨x24, qv, h⟩ := rvI_inr hrv hN
  subst qv
  refine W.eq (g2 := F0 m 46 ls [.int x24]) rfl ?_
  exact x_i E hW hr hlk h (Nat.le_of_ble_eq_true rfl) (Nat.le_of_ble_eq_true rfl) dX6_subtract_46
set_option maxHeartbeats 4000000 in
set_option maxRecDepth 100000 in
theorem m_X6_multiply {l : Launch} {G : GP} {sz : Nat} {q0 : Nat} {a1 : Int32} {a2 : Int32} {a3 : Int32} {σ σ0 : St} {r0 : (Nat ⊕ Int32)} (hl9 : l.stackTraces = false) (h : f_X6_multiply q0 a1 a2 a3 σ = some (r0, σ0)) : vx_Met l yX6_multiply [.code yX6_multiply cX6_multiply 6 (some .int)] ({ frames := 7, cells := 6, slots := 36, locals := 146 } : Room) (va_Pc [.ref (G.2.2.2 + q0), .int a1, .int a2, .int a3] (PreC G skC sz σ)) (QX (PoC G skC σ0) (Aw G.2.2.2 skC.1 sz) (rvI r0)) (XX (PoC G skC σ0) (Aw G.2.2.2 skC.1 sz) (rvI r0)) 6 36 (Aw G.2.2.2 skC.1 sz) := by
  refine mkMetX (by decide +kernel) (Nat.le_of_ble_eq_true rfl) skC_ok ?_
  intro p e s m below meth c ls E hW hl hr hlk ht
  have hl : lv_has ls 6 [(0, .ref (G.2.2.2 + q0)), (1, .int a1), (2, .int a2), (3, .int a3)] := hl
  generalize Aw G.2.2.2 skC.1 s.heap.size = A0 at E hW ⊢
  generalize ([.ref (G.2.2.2 + q0), .int a1, .int a2, .int a3] : List Value).toArray = args
  unfold f_X6_multiply at h
  refine lv_iload_n E.1 E.2.1 dX6_multiply_0 rfl (lv_at hl 1 rfl) ?_
  obtain ⟨r3, σ1, c2, hE, hN⟩ := obx_r2 h
  refine c_SX (As := [.int a1]) (rest := []) E hW (m_X6_requireIndex hl9 c2) kw_641 ws_X6_requireIndex yo_X6_requireIndex ⟨rfl, rfl⟩ ⟨(Nat.le_of_ble_eq_true rfl), (Nat.le_of_ble_eq_true rfl)⟩ (lv_size hl) (Nat.le_of_ble_eq_true rfl) ⟨(Nat.le_of_ble_eq_true rfl), (Nat.le_of_ble_eq_true rfl)⟩ rfl dX6_multiply_1 (fun ex ce q9 H locs hrv hW h1 h2 h3 => ?_) (fun v9 H locs hrv hW => ?_)
  · exact x_outI hW ht hlk h1 h2 h3 (hE ex (rvV_inl hrv)) (Nat.le_of_ble_eq_true rfl) (Nat.le_of_ble_eq_true rfl)
  obtain ⟨-, qv, h⟩ := rvV_inr hrv hN
  subst qv
  refine W.eq (g2 := F0 m 4 ls []) rfl ?_
  refine lv_iload_n E.1 E.2.1 dX6_multiply_4 rfl (lv_at hl 2 rfl) ?_
  obtain ⟨r6, σ4, c5, hE, hN⟩ := obx_r2 h
  refine c_SX (As := [.int a2]) (rest := []) E hW (m_X6_requireIndex hl9 c5) kw_641 ws_X6_requireIndex yo_X6_requireIndex ⟨rfl, rfl⟩ ⟨(Nat.le_of_ble_eq_true rfl), (Nat.le_of_ble_eq_true rfl)⟩ (lv_size hl) (Nat.le_of_ble_eq_true rfl) ⟨(Nat.le_of_ble_eq_true rfl), (Nat.le_of_ble_eq_true rfl)⟩ rfl dX6_multiply_5 (fun ex ce q9 H locs hrv hW h1 h2 h3 => ?_) (fun v9 H locs hrv hW => ?_)
  · exact x_outI hW ht hlk h1 h2 h3 (hE ex (rvV_inl hrv)) (Nat.le_of_ble_eq_true rfl) (Nat.le_of_ble_eq_true rfl)
  obtain ⟨-, qv, h⟩ := rvV_inr hrv hN
  subst qv
  refine W.eq (g2 := F0 m 8 ls []) rfl ?_
  refine lv_iload_n E.1 E.2.1 dX6_multiply_8 rfl (lv_at hl 3 rfl) ?_
  obtain ⟨r9, σ7, c8, hE, hN⟩ := obx_r2 h
  refine c_SX (As := [.int a3]) (rest := []) E hW (m_X6_requireIndex hl9 c8) kw_641 ws_X6_requireIndex yo_X6_requireIndex ⟨rfl, rfl⟩ ⟨(Nat.le_of_ble_eq_true rfl), (Nat.le_of_ble_eq_true rfl)⟩ (lv_size hl) (Nat.le_of_ble_eq_true rfl) ⟨(Nat.le_of_ble_eq_true rfl), (Nat.le_of_ble_eq_true rfl)⟩ rfl dX6_multiply_9 (fun ex ce q9 H locs hrv hW h1 h2 h3 => ?_) (fun v9 H locs hrv hW => ?_)
  · exact x_outI hW ht hlk h1 h2 h3 (hE ex (rvV_inl hrv)) (Nat.le_of_ble_eq_true rfl) (Nat.le_of_ble_eq_true rfl)
  obtain ⟨-, qv, h⟩ := rvV_inr hrv hN
  subst qv
  refine W.eq (g2 := F0 m 12 ls []) rfl ?_
  refine lv_aload_n E.1 E.2.1 dX6_multiply_12 rfl (lv_at hl 0 rfl) ?_
  refine lv_iload_n E.1 E.2.1 dX6_multiply_13 rfl (lv_at hl 2 rfl) ?_
  obtain ⟨g10, h⟩ := gd_r h
  obtain ⟨r14, σ11, c13, hE, hN⟩ := obx_r2 h
  refine c_VX (As := [.int a2]) (rest := []) E hW (m_X6_requireDefined hl9 c13) g10 rfl kw_660 wv_X6_requireDefined yo_X6_requireDefined ⟨rfl, rfl⟩ ⟨(Nat.le_of_ble_eq_true rfl), (Nat.le_of_ble_eq_true rfl)⟩ (lv_size hl) (Nat.le_of_ble_eq_true rfl) ⟨(Nat.le_of_ble_eq_true rfl), (Nat.le_of_ble_eq_true rfl)⟩ rfl dX6_multiply_14 (fun ex ce q9 H locs hrv hW h1 h2 h3 => ?_) (fun v9 H locs hrv hW => ?_)
  · exact x_outI hW ht hlk h1 h2 h3 (hE ex (rvR_inl hrv)) (Nat.le_of_ble_eq_true rfl) (Nat.le_of_ble_eq_true rfl)
  obtain ⟨q12, qv, h⟩ := rvR_inr hrv hN
  subst qv
  refine W.eq (g2 := F0 m 17 ls [.ref (G.2.2.2 + q12)]) rfl ?_
  refine lv_astore (lv' := [(4, .ref (G.2.2.2 + q12)), (0, .ref (G.2.2.2 + q0)), (1, .int a1), (2, .int a2), (3, .int a3)]) E.1 E.2.1 dX6_multiply_17 hl (by decide) rfl (fun ls hl => ?_)
  refine lv_aload_n E.1 E.2.1 dX6_multiply_19 rfl (lv_at hl 1 rfl) ?_
  refine lv_iload_n E.1 E.2.1 dX6_multiply_20 rfl (lv_at hl 4 rfl) ?_
  obtain ⟨r18, σ15, c17, hE, hN⟩ := obx_r2 h
  refine c_VX (As := [.int a3]) (rest := []) E hW (m_X6_requireDefined hl9 c17) g10 rfl kw_660 wv_X6_requireDefined yo_X6_requireDefined ⟨rfl, rfl⟩ ⟨(Nat.le_of_ble_eq_true rfl), (Nat.le_of_ble_eq_true rfl)⟩ (lv_size hl) (Nat.le_of_ble_eq_true rfl) ⟨(Nat.le_of_ble_eq_true rfl), (Nat.le_of_ble_eq_true rfl)⟩ rfl dX6_multiply_21 (fun ex ce q9 H locs hrv hW h1 h2 h3 => ?_) (fun v9 H locs hrv hW => ?_)
  · exact x_outI hW ht hlk h1 h2 h3 (hE ex (rvR_inl hrv)) (Nat.le_of_ble_eq_true rfl) (Nat.le_of_ble_eq_true rfl)
  obtain ⟨q16, qv, h⟩ := rvR_inr hrv hN
  subst qv
  refine W.eq (g2 := F0 m 24 ls [.ref (G.2.2.2 + q16)]) rfl ?_
  refine lv_astore (lv' := [(5, .ref (G.2.2.2 + q16)), (4, .ref (G.2.2.2 + q12)), (0, .ref (G.2.2.2 + q0)), (1, .int a1), (2, .int a2), (3, .int a3)]) E.1 E.2.1 dX6_multiply_24 hl (by decide) rfl (fun ls hl => ?_)
  refine lv_aload_n E.1 E.2.1 dX6_multiply_26 rfl (lv_at hl 2 rfl) ?_
  refine lv_iload_n E.1 E.2.1 dX6_multiply_27 rfl (lv_at hl 3 rfl) ?_
  refine lv_aload_n E.1 E.2.1 dX6_multiply_28 rfl (lv_at hl 2 rfl) ?_
  refine gf_X6_26 E hW g10 dX6_multiply_29 ?_
  refine lv_aload_n E.1 E.2.1 dX6_multiply_32 rfl (lv_at hl 2 rfl) ?_
  refine gf_X6_40 E hW g10 dX6_multiply_33 ?_
  refine lv_aload E.1 E.2.1 dX6_multiply_36 (lv_at hl 1 rfl) ?_
  refine lv_aload E.1 E.2.1 dX6_multiply_38 (lv_at hl 0 rfl) ?_
  obtain ⟨g19, h⟩ := gd_r h
  obtain ⟨x21, σ20, c22, h⟩ := obn_r h
  refine c_V (As := [.ref (G.2.2.2 + (rC q0 4)), .ref (G.2.2.2 + q12), .ref (G.2.2.2 + q16)]) (rest := [.int a1, .ref (G.2.2.2 + q0)]) E hW (m_X0_multiplyModels c22) g19 rfl kw_819 wv_X0_multiplyModels yo_X0_multiplyModels ⟨rfl, rfl⟩ ⟨(Nat.le_of_ble_eq_true rfl), (Nat.le_of_ble_eq_true rfl)⟩ (lv_size hl) (Nat.le_of_ble_eq_true rfl) ⟨(Nat.le_of_ble_eq_true rfl), (Nat.le_of_ble_eq_true rfl)⟩ rfl dX6_multiply_40 (fun H locs hW => ?_)
  refine W.eq (g2 := F0 m 43 ls [.int x21, .int a1, .ref (G.2.2.2 + q0)]) rfl ?_
  obtain ⟨r26, σ23, c25, hE, hN⟩ := obx_r2 h
  refine c_VX (As := [.int a1, .int x21]) (rest := []) E hW (m_X6_settle hl9 c25) g10 rfl kw_779 wv_X6_settle yo_X6_settle ⟨rfl, rfl⟩ ⟨(Nat.le_of_ble_eq_true rfl), (Nat.le_of_ble_eq_true rfl)⟩ (lv_size hl) (Nat.le_of_ble_eq_true rfl) ⟨(Nat.le_of_ble_eq_true rfl), (Nat.le_of_ble_eq_true rfl)⟩ rfl dX6_multiply_43 (fun ex ce q9 H locs hrv hW h1 h2 h3 => ?_) (fun v9 H locs hrv hW => ?_)
  · exact x_outI hW ht hlk h1 h2 h3 (hE ex (rvI_inl hrv)) (Nat.le_of_ble_eq_true rfl) (Nat.le_of_ble_eq_true rfl)
  obtain ⟨x24, qv, h⟩ := rvI_inr hrv hN
  subst qv
  refine W.eq (g2 := F0 m 46 ls [.int x24]) rfl ?_
  exact x_i E hW hr hlk h (Nat.le_of_ble_eq_true rfl) (Nat.le_of_ble_eq_true rfl) dX6_multiply_46
set_option maxHeartbeats 4000000 in
set_option maxRecDepth 100000 in
theorem m_X6_compose {l : Launch} {G : GP} {sz : Nat} {q0 : Nat} {a1 : Int32} {a2 : Int32} {a3 : Int32} {a4 : Int32} {σ σ0 : St} {r0 : (Nat ⊕ Int32)} (hl9 : l.stackTraces = false) (h : f_X6_compose q0 a1 a2 a3 a4 σ = some (r0, σ0)) : vx_Met l yX6_compose [.code yX6_compose cX6_compose 8 (some .int)] ({ frames := 7, cells := 8, slots := 48, locals := 146 } : Room) (va_Pc [.ref (G.2.2.2 + q0), .int a1, .int a2, .int a3, .int a4] (PreC G skC sz σ)) (QX (PoC G skC σ0) (Aw G.2.2.2 skC.1 sz) (rvI r0)) (XX (PoC G skC σ0) (Aw G.2.2.2 skC.1 sz) (rvI r0)) 8 48 (Aw G.2.2.2 skC.1 sz) := by
  refine mkMetX (by decide +kernel) (Nat.le_of_ble_eq_true rfl) skC_ok ?_
  intro p e s m below meth c ls E hW hl hr hlk ht
  have hl : lv_has ls 8 [(0, .ref (G.2.2.2 + q0)), (1, .int a1), (2, .int a2), (3, .int a3), (4, .int a4)] := hl
  generalize Aw G.2.2.2 skC.1 s.heap.size = A0 at E hW ⊢
  generalize ([.ref (G.2.2.2 + q0), .int a1, .int a2, .int a3, .int a4] : List Value).toArray = args
  unfold f_X6_compose at h
  refine lv_iload_n E.1 E.2.1 dX6_compose_0 rfl (lv_at hl 1 rfl) ?_
  obtain ⟨r3, σ1, c2, hE, hN⟩ := obx_r2 h
  refine c_SX (As := [.int a1]) (rest := []) E hW (m_X6_requireIndex hl9 c2) kw_641 ws_X6_requireIndex yo_X6_requireIndex ⟨rfl, rfl⟩ ⟨(Nat.le_of_ble_eq_true rfl), (Nat.le_of_ble_eq_true rfl)⟩ (lv_size hl) (Nat.le_of_ble_eq_true rfl) ⟨(Nat.le_of_ble_eq_true rfl), (Nat.le_of_ble_eq_true rfl)⟩ rfl dX6_compose_1 (fun ex ce q9 H locs hrv hW h1 h2 h3 => ?_) (fun v9 H locs hrv hW => ?_)
  · exact x_outI hW ht hlk h1 h2 h3 (hE ex (rvV_inl hrv)) (Nat.le_of_ble_eq_true rfl) (Nat.le_of_ble_eq_true rfl)
  obtain ⟨-, qv, h⟩ := rvV_inr hrv hN
  subst qv
  refine W.eq (g2 := F0 m 4 ls []) rfl ?_
  refine lv_iload_n E.1 E.2.1 dX6_compose_4 rfl (lv_at hl 2 rfl) ?_
  obtain ⟨r6, σ4, c5, hE, hN⟩ := obx_r2 h
  refine c_SX (As := [.int a2]) (rest := []) E hW (m_X6_requireIndex hl9 c5) kw_641 ws_X6_requireIndex yo_X6_requireIndex ⟨rfl, rfl⟩ ⟨(Nat.le_of_ble_eq_true rfl), (Nat.le_of_ble_eq_true rfl)⟩ (lv_size hl) (Nat.le_of_ble_eq_true rfl) ⟨(Nat.le_of_ble_eq_true rfl), (Nat.le_of_ble_eq_true rfl)⟩ rfl dX6_compose_5 (fun ex ce q9 H locs hrv hW h1 h2 h3 => ?_) (fun v9 H locs hrv hW => ?_)
  · exact x_outI hW ht hlk h1 h2 h3 (hE ex (rvV_inl hrv)) (Nat.le_of_ble_eq_true rfl) (Nat.le_of_ble_eq_true rfl)
  obtain ⟨-, qv, h⟩ := rvV_inr hrv hN
  subst qv
  refine W.eq (g2 := F0 m 8 ls []) rfl ?_
  refine lv_iload_n E.1 E.2.1 dX6_compose_8 rfl (lv_at hl 3 rfl) ?_
  obtain ⟨r9, σ7, c8, hE, hN⟩ := obx_r2 h
  refine c_SX (As := [.int a3]) (rest := []) E hW (m_X6_requireIndex hl9 c8) kw_641 ws_X6_requireIndex yo_X6_requireIndex ⟨rfl, rfl⟩ ⟨(Nat.le_of_ble_eq_true rfl), (Nat.le_of_ble_eq_true rfl)⟩ (lv_size hl) (Nat.le_of_ble_eq_true rfl) ⟨(Nat.le_of_ble_eq_true rfl), (Nat.le_of_ble_eq_true rfl)⟩ rfl dX6_compose_9 (fun ex ce q9 H locs hrv hW h1 h2 h3 => ?_) (fun v9 H locs hrv hW => ?_)
  · exact x_outI hW ht hlk h1 h2 h3 (hE ex (rvV_inl hrv)) (Nat.le_of_ble_eq_true rfl) (Nat.le_of_ble_eq_true rfl)
  obtain ⟨-, qv, h⟩ := rvV_inr hrv hN
  subst qv
  refine W.eq (g2 := F0 m 12 ls []) rfl ?_
  refine lv_iload E.1 E.2.1 dX6_compose_12 (lv_at hl 4 rfl) ?_
  obtain ⟨r12, σ10, c11, hE, hN⟩ := obx_r2 h
  refine c_SX (As := [.int a4]) (rest := []) E hW (m_X6_requireIndex hl9 c11) kw_641 ws_X6_requireIndex yo_X6_requireIndex ⟨rfl, rfl⟩ ⟨(Nat.le_of_ble_eq_true rfl), (Nat.le_of_ble_eq_true rfl)⟩ (lv_size hl) (Nat.le_of_ble_eq_true rfl) ⟨(Nat.le_of_ble_eq_true rfl), (Nat.le_of_ble_eq_true rfl)⟩ rfl dX6_compose_14 (fun ex ce q9 H locs hrv hW h1 h2 h3 => ?_) (fun v9 H locs hrv hW => ?_)
  · exact x_outI hW ht hlk h1 h2 h3 (hE ex (rvV_inl hrv)) (Nat.le_of_ble_eq_true rfl) (Nat.le_of_ble_eq_true rfl)
  obtain ⟨-, qv, h⟩ := rvV_inr hrv hN
  subst qv
  refine W.eq (g2 := F0 m 17 ls []) rfl ?_
  refine lv_aload_n E.1 E.2.1 dX6_compose_17 rfl (lv_at hl 0 rfl) ?_
  refine lv_iload_n E.1 E.2.1 dX6_compose_18 rfl (lv_at hl 2 rfl) ?_
  obtain ⟨g13, h⟩ := gd_r h
  obtain ⟨r17, σ14, c16, hE, hN⟩ := obx_r2 h
  refine c_VX (As := [.int a2]) (rest := []) E hW (m_X6_requireDefined hl9 c16) g13 rfl kw_660 wv_X6_requireDefined yo_X6_requireDefined ⟨rfl, rfl⟩ ⟨(Nat.le_of_ble_eq_true rfl), (Nat.le_of_ble_eq_true rfl)⟩ (lv_size hl) (Nat.le_of_ble_eq_true rfl) ⟨(Nat.le_of_ble_eq_true rfl), (Nat.le_of_ble_eq_true rfl)⟩ rfl dX6_compose_19 (fun ex ce q9 H locs hrv hW h1 h2 h3 => ?_) (fun v9 H locs hrv hW => ?_)
  · exact x_outI hW ht hlk h1 h2 h3 (hE ex (rvR_inl hrv)) (Nat.le_of_ble_eq_true rfl) (Nat.le_of_ble_eq_true rfl)
  obtain ⟨q15, qv, h⟩ := rvR_inr hrv hN
  subst qv
  refine W.eq (g2 := F0 m 22 ls [.ref (G.2.2.2 + q15)]) rfl ?_
  refine lv_astore (lv' := [(5, .ref (G.2.2.2 + q15)), (0, .ref (G.2.2.2 + q0)), (1, .int a1), (2, .int a2), (3, .int a3), (4, .int a4)]) E.1 E.2.1 dX6_compose_22 hl (by decide) rfl (fun ls hl => ?_)
  refine lv_aload_n E.1 E.2.1 dX6_compose_24 rfl (lv_at hl 1 rfl) ?_
  refine lv_iload_n E.1 E.2.1 dX6_compose_25 rfl (lv_at hl 4 rfl) ?_
  obtain ⟨r21, σ18, c20, hE, hN⟩ := obx_r2 h
  refine c_VX (As := [.int a3]) (rest := []) E hW (m_X6_requireDefined hl9 c20) g13 rfl kw_660 wv_X6_requireDefined yo_X6_requireDefined ⟨rfl, rfl⟩ ⟨(Nat.le_of_ble_eq_true rfl), (Nat.le_of_ble_eq_true rfl)⟩ (lv_size hl) (Nat.le_of_ble_eq_true rfl) ⟨(Nat.le_of_ble_eq_true rfl), (Nat.le_of_ble_eq_true rfl)⟩ rfl dX6_compose_26 (fun ex ce q9 H locs hrv hW h1 h2 h3 => ?_) (fun v9 H locs hrv hW => ?_)
  · exact x_outI hW ht hlk h1 h2 h3 (hE ex (rvR_inl hrv)) (Nat.le_of_ble_eq_true rfl) (Nat.le_of_ble_eq_true rfl)
  obtain ⟨q19, qv, h⟩ := rvR_inr hrv hN
  subst qv
  refine W.eq (g2 := F0 m 29 ls [.ref (G.2.2.2 + q19)]) rfl ?_
  refine lv_astore (lv' := [(6, .ref (G.2.2.2 + q19)), (5, .ref (G.2.2.2 + q15)), (0, .ref (G.2.2.2 + q0)), (1, .int a1), (2, .int a2), (3, .int a3), (4, .int a4)]) E.1 E.2.1 dX6_compose_29 hl (by decide) rfl (fun ls hl => ?_)
  refine lv_aload_n E.1 E.2.1 dX6_compose_31 rfl (lv_at hl 2 rfl) ?_
  refine lv_iload E.1 E.2.1 dX6_compose_32 (lv_at hl 6 rfl) ?_
  obtain ⟨r25, σ22, c24, hE, hN⟩ := obx_r2 h
  refine c_VX (As := [.int a4]) (rest := []) E hW (m_X6_requireDefined hl9 c24) g13 rfl kw_660 wv_X6_requireDefined yo_X6_requireDefined ⟨rfl, rfl⟩ ⟨(Nat.le_of_ble_eq_true rfl), (Nat.le_of_ble_eq_true rfl)⟩ (lv_size hl) (Nat.le_of_ble_eq_true rfl) ⟨(Nat.le_of_ble_eq_true rfl), (Nat.le_of_ble_eq_true rfl)⟩ rfl dX6_compose_34 (fun ex ce q9 H locs hrv hW h1 h2 h3 => ?_) (fun v9 H locs hrv hW => ?_)
  · exact x_outI hW ht hlk h1 h2 h3 (hE ex (rvR_inl hrv)) (Nat.le_of_ble_eq_true rfl) (Nat.le_of_ble_eq_true rfl)
  obtain ⟨q23, qv, h⟩ := rvR_inr hrv hN
  subst qv
  refine W.eq (g2 := F0 m 37 ls [.ref (G.2.2.2 + q23)]) rfl ?_
  refine lv_astore (lv' := [(7, .ref (G.2.2.2 + q23)), (6, .ref (G.2.2.2 + q19)), (5, .ref (G.2.2.2 + q15)), (0, .ref (G.2.2.2 + q0)), (1, .int a1), (2, .int a2), (3, .int a3), (4, .int a4)]) E.1 E.2.1 dX6_compose_37 hl (by decide) rfl (fun ls hl => ?_)
  refine lv_aload_n E.1 E.2.1 dX6_compose_39 rfl (lv_at hl 3 rfl) ?_
  refine lv_iload_n E.1 E.2.1 dX6_compose_40 rfl (lv_at hl 4 rfl) ?_
  refine lv_aload_n E.1 E.2.1 dX6_compose_41 rfl (lv_at hl 3 rfl) ?_
  refine gf_X6_26 E hW g13 dX6_compose_42 ?_
  refine lv_aload_n E.1 E.2.1 dX6_compose_45 rfl (lv_at hl 3 rfl) ?_
  refine gf_X6_40 E hW g13 dX6_compose_46 ?_
  refine lv_aload E.1 E.2.1 dX6_compose_49 (lv_at hl 2 rfl) ?_
  refine lv_aload E.1 E.2.1 dX6_compose_51 (lv_at hl 1 rfl) ?_
  refine lv_aload E.1 E.2.1 dX6_compose_53 (lv_at hl 0 rfl) ?_
  obtain ⟨g26, h⟩ := gd_r h
  obtain ⟨x28, σ27, c29, h⟩ := obn_r h
  refine c_V (As := [.ref (G.2.2.2 + (rC q0 4)), .ref (G.2.2.2 + q15), .ref (G.2.2.2 + q19), .ref (G.2.2.2 + q23)]) (rest := [.int a1, .ref (G.2.2.2 + q0)]) E hW (m_X0_composeModels c29) g26 rfl kw_769 wv_X0_composeModels yo_X0_composeModels ⟨rfl, rfl⟩ ⟨(Nat.le_of_ble_eq_true rfl), (Nat.le_of_ble_eq_true rfl)⟩ (lv_size hl) (Nat.le_of_ble_eq_true rfl) ⟨(Nat.le_of_ble_eq_true rfl), (Nat.le_of_ble_eq_true rfl)⟩ rfl dX6_compose_55 (fun H locs hW => ?_)
  refine W.eq (g2 := F0 m 58 ls [.int x28, .int a1, .ref (G.2.2.2 + q0)]) rfl ?_
  obtain ⟨r33, σ30, c32, hE, hN⟩ := obx_r2 h
  refine c_VX (As := [.int a1, .int x28]) (rest := []) E hW (m_X6_settle hl9 c32) g13 rfl kw_779 wv_X6_settle yo_X6_settle ⟨rfl, rfl⟩ ⟨(Nat.le_of_ble_eq_true rfl), (Nat.le_of_ble_eq_true rfl)⟩ (lv_size hl) (Nat.le_of_ble_eq_true rfl) ⟨(Nat.le_of_ble_eq_true rfl), (Nat.le_of_ble_eq_true rfl)⟩ rfl dX6_compose_58 (fun ex ce q9 H locs hrv hW h1 h2 h3 => ?_) (fun v9 H locs hrv hW => ?_)
  · exact x_outI hW ht hlk h1 h2 h3 (hE ex (rvI_inl hrv)) (Nat.le_of_ble_eq_true rfl) (Nat.le_of_ble_eq_true rfl)
  obtain ⟨x31, qv, h⟩ := rvI_inr hrv hN
  subst qv
  refine W.eq (g2 := F0 m 61 ls [.int x31]) rfl ?_
  exact x_i E hW hr hlk h (Nat.le_of_ble_eq_true rfl) (Nat.le_of_ble_eq_true rfl) dX6_compose_61
set_option maxHeartbeats 4000000 in
set_option maxRecDepth 100000 in
theorem m_X6_integrate {l : Launch} {G : GP} {sz : Nat} {q0 : Nat} {a1 : Int32} {a2 : Int32} {a3 : Int32} {σ σ0 : St} {r0 : (Nat ⊕ Int32)} (hl9 : l.stackTraces = false) (h : f_X6_integrate q0 a1 a2 a3 σ = some (r0, σ0)) : vx_Met l yX6_integrate [.code yX6_integrate cX6_integrate 5 (some .int)] ({ frames := 7, cells := 5, slots := 30, locals := 146 } : Room) (va_Pc [.ref (G.2.2.2 + q0), .int a1, .int a2, .int a3] (PreC G skC sz σ)) (QX (PoC G skC σ0) (Aw G.2.2.2 skC.1 sz) (rvI r0)) (XX (PoC G skC σ0) (Aw G.2.2.2 skC.1 sz) (rvI r0)) 5 30 (Aw G.2.2.2 skC.1 sz) := by
  refine mkMetX (by decide +kernel) (Nat.le_of_ble_eq_true rfl) skC_ok ?_
  intro p e s m below meth c ls E hW hl hr hlk ht
  have hl : lv_has ls 5 [(0, .ref (G.2.2.2 + q0)), (1, .int a1), (2, .int a2), (3, .int a3)] := hl
  generalize Aw G.2.2.2 skC.1 s.heap.size = A0 at E hW ⊢
  generalize ([.ref (G.2.2.2 + q0), .int a1, .int a2, .int a3] : List Value).toArray = args
  unfold f_X6_integrate at h
  refine lv_iload_n E.1 E.2.1 dX6_integrate_0 rfl (lv_at hl 1 rfl) ?_
  obtain ⟨r3, σ1, c2, hE, hN⟩ := obx_r2 h
  refine c_SX (As := [.int a1]) (rest := []) E hW (m_X6_requireIndex hl9 c2) kw_641 ws_X6_requireIndex yo_X6_requireIndex ⟨rfl, rfl⟩ ⟨(Nat.le_of_ble_eq_true rfl), (Nat.le_of_ble_eq_true rfl)⟩ (lv_size hl) (Nat.le_of_ble_eq_true rfl) ⟨(Nat.le_of_ble_eq_true rfl), (Nat.le_of_ble_eq_true rfl)⟩ rfl dX6_integrate_1 (fun ex ce q9 H locs hrv hW h1 h2 h3 => ?_) (fun v9 H locs hrv hW => ?_)
  · exact x_outI hW ht hlk h1 h2 h3 (hE ex (rvV_inl hrv)) (Nat.le_of_ble_eq_true rfl) (Nat.le_of_ble_eq_true rfl)
  obtain ⟨-, qv, h⟩ := rvV_inr hrv hN
  subst qv
  refine W.eq (g2 := F0 m 4 ls []) rfl ?_
  refine lv_iload_n E.1 E.2.1 dX6_integrate_4 rfl (lv_at hl 2 rfl) ?_
  obtain ⟨r6, σ4, c5, hE, hN⟩ := obx_r2 h
  refine c_SX (As := [.int a2]) (rest := []) E hW (m_X6_requireIndex hl9 c5) kw_641 ws_X6_requireIndex yo_X6_requireIndex ⟨rfl, rfl⟩ ⟨(Nat.le_of_ble_eq_true rfl), (Nat.le_of_ble_eq_true rfl)⟩ (lv_size hl) (Nat.le_of_ble_eq_true rfl) ⟨(Nat.le_of_ble_eq_true rfl), (Nat.le_of_ble_eq_true rfl)⟩ rfl dX6_integrate_5 (fun ex ce q9 H locs hrv hW h1 h2 h3 => ?_) (fun v9 H locs hrv hW => ?_)
  · exact x_outI hW ht hlk h1 h2 h3 (hE ex (rvV_inl hrv)) (Nat.le_of_ble_eq_true rfl) (Nat.le_of_ble_eq_true rfl)
  obtain ⟨-, qv, h⟩ := rvV_inr hrv hN
  subst qv
  refine W.eq (g2 := F0 m 8 ls []) rfl ?_
  refine lv_aload_n E.1 E.2.1 dX6_integrate_8 rfl (lv_at hl 0 rfl) ?_
  refine lv_iload_n E.1 E.2.1 dX6_integrate_9 rfl (lv_at hl 2 rfl) ?_
  obtain ⟨g7, h⟩ := gd_r h
  obtain ⟨r11, σ8, c10, hE, hN⟩ := obx_r2 h
  refine c_VX (As := [.int a2]) (rest := []) E hW (m_X6_requireDefined hl9 c10) g7 rfl kw_660 wv_X6_requireDefined yo_X6_requireDefined ⟨rfl, rfl⟩ ⟨(Nat.le_of_ble_eq_true rfl), (Nat.le_of_ble_eq_true rfl)⟩ (lv_size hl) (Nat.le_of_ble_eq_true rfl) ⟨(Nat.le_of_ble_eq_true rfl), (Nat.le_of_ble_eq_true rfl)⟩ rfl dX6_integrate_10 (fun ex ce q9 H locs hrv hW h1 h2 h3 => ?_) (fun v9 H locs hrv hW => ?_)
  · exact x_outI hW ht hlk h1 h2 h3 (hE ex (rvR_inl hrv)) (Nat.le_of_ble_eq_true rfl) (Nat.le_of_ble_eq_true rfl)
  obtain ⟨q9, qv, h⟩ := rvR_inr hrv hN
  subst qv
  refine W.eq (g2 := F0 m 13 ls [.ref (G.2.2.2 + q9)]) rfl ?_
  refine lv_astore (lv' := [(4, .ref (G.2.2.2 + q9)), (0, .ref (G.2.2.2 + q0)), (1, .int a1), (2, .int a2), (3, .int a3)]) E.1 E.2.1 dX6_integrate_13 hl (by decide) rfl (fun ls hl => ?_)
  refine lv_iload_n E.1 E.2.1 dX6_integrate_15 rfl (lv_at hl 4 rfl) ?_
  obtain ⟨r14, σ12, c13, hE, hN⟩ := obx_r2 h
  refine c_SX (As := [.int a3]) (rest := []) E hW (m_X6_requireZeroOrOne hl9 c13) kw_696 ws_X6_requireZeroOrOne yo_X6_requireZeroOrOne ⟨rfl, rfl⟩ ⟨(Nat.le_of_ble_eq_true rfl), (Nat.le_of_ble_eq_true rfl)⟩ (lv_size hl) (Nat.le_of_ble_eq_true rfl) ⟨(Nat.le_of_ble_eq_true rfl), (Nat.le_of_ble_eq_true rfl)⟩ rfl dX6_integrate_16 (fun ex ce q9 H locs hrv hW h1 h2 h3 => ?_) (fun v9 H locs hrv hW => ?_)
  · exact x_outI hW ht hlk h1 h2 h3 (hE ex (rvV_inl hrv)) (Nat.le_of_ble_eq_true rfl) (Nat.le_of_ble_eq_true rfl)
  obtain ⟨-, qv, h⟩ := rvV_inr hrv hN
  subst qv
  refine W.eq (g2 := F0 m 19 ls []) rfl ?_
  refine lv_aload_n E.1 E.2.1 dX6_integrate_19 rfl (lv_at hl 1 rfl) ?_
  refine lv_iload_n E.1 E.2.1 dX6_integrate_20 rfl (lv_at hl 2 rfl) ?_
  refine lv_aload_n E.1 E.2.1 dX6_integrate_21 rfl (lv_at hl 1 rfl) ?_
  refine gf_X6_26 E hW g7 dX6_integrate_22 ?_
  refine lv_aload_n E.1 E.2.1 dX6_integrate_25 rfl (lv_at hl 1 rfl) ?_
  refine gf_X6_40 E hW g7 dX6_integrate_26 ?_
  refine lv_aload E.1 E.2.1 dX6_integrate_29 (lv_at hl 0 rfl) ?_
  refine lv_iload_n E.1 E.2.1 dX6_integrate_31 rfl (lv_at hl 4 rfl) ?_
  obtain ⟨g15, h⟩ := gd_r h
  obtain ⟨x17, σ16, c18, h⟩ := obn_r h
  refine c_V (As := [.ref (G.2.2.2 + (rC q0 4)), .ref (G.2.2.2 + q9), .int a3]) (rest := [.int a1, .ref (G.2.2.2 + q0)]) E hW (m_X0_integrateModel c18) g15 rfl kw_834 wv_X0_integrateModel yo_X0_integrateModel ⟨rfl, rfl⟩ ⟨(Nat.le_of_ble_eq_true rfl), (Nat.le_of_ble_eq_true rfl)⟩ (lv_size hl) (Nat.le_of_ble_eq_true rfl) ⟨(Nat.le_of_ble_eq_true rfl), (Nat.le_of_ble_eq_true rfl)⟩ rfl dX6_integrate_32 (fun H locs hW => ?_)
  refine W.eq (g2 := F0 m 35 ls [.int x17, .int a1, .ref (G.2.2.2 + q0)]) rfl ?_
  obtain ⟨r22, σ19, c21, hE, hN⟩ := obx_r2 h
  refine c_VX (As := [.int a1, .int x17]) (rest := []) E hW (m_X6_settle hl9 c21) g7 rfl kw_779 wv_X6_settle yo_X6_settle ⟨rfl, rfl⟩ ⟨(Nat.le_of_ble_eq_true rfl), (Nat.le_of_ble_eq_true rfl)⟩ (lv_size hl) (Nat.le_of_ble_eq_true rfl) ⟨(Nat.le_of_ble_eq_true rfl), (Nat.le_of_ble_eq_true rfl)⟩ rfl dX6_integrate_35 (fun ex ce q9 H locs hrv hW h1 h2 h3 => ?_) (fun v9 H locs hrv hW => ?_)
  · exact x_outI hW ht hlk h1 h2 h3 (hE ex (rvI_inl hrv)) (Nat.le_of_ble_eq_true rfl) (Nat.le_of_ble_eq_true rfl)
  obtain ⟨x20, qv, h⟩ := rvI_inr hrv hN
  subst qv
  refine W.eq (g2 := F0 m 38 ls [.int x20]) rfl ?_
  exact x_i E hW hr hlk h (Nat.le_of_ble_eq_true rfl) (Nat.le_of_ble_eq_true rfl) dX6_integrate_38
set_option maxHeartbeats 4000000 in
set_option maxRecDepth 100000 in
theorem L_X6_step_61 {p : Program} {l : Launch} {e : Env} {s : State} {m : MethodId} {args : Array Value} {below : List Frame} {meth : Method} {c : Code} {G : GP} {A0 : Nat → Prop} {σ0 : St} {r0 : (Nat ⊕ Int32)} (E : En p m c s cX6_step 8 yX6_step.cls G A0) (hr : meth.sig.returnType = (some .int)) (hlk : meth.locks = false) (hl9 : l.stackTraces = false) (ht : ∀ x ∈ c.exceptionTable.toList, False) : ∀ (n36 : Nat) (q28 : Nat) (x29 : Int32) (x30 : Int32) (q31 : Nat) (q32 : Nat) (q33 : Nat) (q34 : Nat) (x35 : Int32) (σ27 : St) (H : Heap) (locs : List Loc) (ls : Array Slot), f_X6_step_L61 n36 q28 x29 x30 q31 q32 q33 q34 x35 σ27 = some (r0, σ0) → Wo G skC A0 s σ27 H locs → lv_has ls 8 [(0, .ref (G.2.2.2 + q28)), (1, .int x29), (2, .int x30), (3, .ref (G.2.2.2 + q31)), (4, .ref (G.2.2.2 + q32)), (5, .ref (G.2.2.2 + q33)), (6, .ref (G.2.2.2 + q34)), (7, .int x35)] → W p l e ({ frames := 7, cells := 6, slots := 36, locals := 140 } : Room) s m args below meth c H locs 6 36 (vx_MQ below (QX (PoC G skC σ0) A0 (rvI r0)) (XX (PoC G skC σ0) A0 (rvI r0)) args s 6 36 A0) (F0 m 61 ls []) := by
  intro n36
  induction n36 with
  | zero =>
    intro q28 x29 x30 q31 q32 q33 q34 x35 σ27 H locs ls h hW hl
    rw [f_X6_step_L61] at h
    cases h
  | succ n36 ih =>
    intro q28 x29 x30 q31 q32 q33 q34 x35 σ27 H locs ls h hW hl
    rw [f_X6_step_L61] at h
    refine lv_iload E.1 E.2.1 dX6_step_61 (lv_at hl 7 rfl) ?_
    refine lv_iload_n E.1 E.2.1 dX6_step_63 rfl (lv_at hl 2 rfl) ?_
    refine lv_icmp_ge (tgt := 92) E.1 E.2.1 dX6_step_64 (by decide) (fun g => ?_) (fun g => ?_)
    · have h := ifp h g
      refine lv_iload E.1 E.2.1 dX6_step_92 (lv_at hl 7 rfl) ?_
      exact x_i E hW hr hlk h (Nat.le_of_ble_eq_true rfl) (Nat.le_of_ble_eq_true rfl) dX6_step_94
    · have h := ifn h g
      refine lv_aload_n E.1 E.2.1 dX6_step_67 rfl (lv_at hl 0 rfl) ?_
      obtain ⟨g37, h⟩ := gd_r h
      refine gf_X6_26 E hW g37 dX6_step_68 ?_
      refine lv_aload_n E.1 E.2.1 dX6_step_71 rfl (lv_at hl 3 rfl) ?_
      refine lv_aload E.1 E.2.1 dX6_step_72 (lv_at hl 4 rfl) ?_
      refine lv_aload E.1 E.2.1 dX6_step_74 (lv_at hl 5 rfl) ?_
      refine lv_aload E.1 E.2.1 dX6_step_76 (lv_at hl 6 rfl) ?_
      refine lv_iload_n E.1 E.2.1 dX6_step_78 rfl (lv_at hl 1 rfl) ?_
      refine lv_i2l E.1 E.2.1 dX6_step_79 rfl ?_
      obtain ⟨g38, h⟩ := gd_r h
      obtain ⟨x40, σ39, c41, h⟩ := obn_r h
      refine c_V (As := [.ref (G.2.2.2 + q31), .ref (G.2.2.2 + q32), .ref (G.2.2.2 + q33), .ref (G.2.2.2 + q34), .long x29.toInt64]) (rest := []) E hW (m_X0_moveModels c41) g38 rfl kw_843 wv_X0_moveModels yo_X0_moveModels ⟨rfl, rfl⟩ ⟨(Nat.le_of_ble_eq_true rfl), (Nat.le_of_ble_eq_true rfl)⟩ (lv_size hl) (Nat.le_of_ble_eq_true rfl) ⟨(Nat.le_of_ble_eq_true rfl), (Nat.le_of_ble_eq_true rfl)⟩ rfl dX6_step_80 (fun H locs hW => ?_)
      refine W.eq (g2 := F0 m 83 ls [.int x40]) rfl ?_
      refine lv_if_eq (tgt := 92) E.1 E.2.1 dX6_step_83 (by decide) (fun g => ?_) (fun g => ?_)
      · have h := ifp h g
        refine lv_iload E.1 E.2.1 dX6_step_92 (lv_at hl 7 rfl) ?_
        exact x_i E hW hr hlk h (Nat.le_of_ble_eq_true rfl) (Nat.le_of_ble_eq_true rfl) dX6_step_94
      · have h := ifn h g
        obtain ⟨x42, ex42⟩ : ∃ y : Int32, y = x35 + (1 : Int32) := ⟨_, rfl⟩
        have h := bnd_r ex42 h
        refine lv_iinc (v := x42) (lv' := [(7, .int x42), (0, .ref (G.2.2.2 + q28)), (1, .int x29), (2, .int x30), (3, .ref (G.2.2.2 + q31)), (4, .ref (G.2.2.2 + q32)), (5, .ref (G.2.2.2 + q33)), (6, .ref (G.2.2.2 + q34))]) E.1 E.2.1 dX6_step_86 hl (k := 7) rfl (by rw [ex42]; rfl) (by decide) rfl (fun ls hl => ?_)
        refine lv_goto (tgt := 61) E.1 E.2.1 dX6_step_89 (by decide) ?_
        exact ih _ _ _ _ _ _ _ _ _ _ _ _ h hW (lv_sub hl [1, 2, 3, 4, 5, 6, 7, 0] rfl)
set_option maxHeartbeats 4000000 in
set_option maxRecDepth 100000 in
theorem m_X6_step {l : Launch} {G : GP} {sz : Nat} {q0 : Nat} {a1 : Int32} {a2 : Int32} {σ σ0 : St} {r0 : (Nat ⊕ Int32)} (hl9 : l.stackTraces = false) (h : f_X6_step q0 a1 a2 σ = some (r0, σ0)) : vx_Met l yX6_step [.code yX6_step cX6_step 8 (some .int)] ({ frames := 7, cells := 6, slots := 36, locals := 140 } : Room) (va_Pc [.ref (G.2.2.2 + q0), .int a1, .int a2] (PreC G skC sz σ)) (QX (PoC G skC σ0) (Aw G.2.2.2 skC.1 sz) (rvI r0)) (XX (PoC G skC σ0) (Aw G.2.2.2 skC.1 sz) (rvI r0)) 6 36 (Aw G.2.2.2 skC.1 sz) := by
  refine mkMetX (by decide +kernel) (Nat.le_of_ble_eq_true rfl) skC_ok ?_
  intro p e s m below meth c ls E hW hl hr hlk ht
  have hl : lv_has ls 8 [(0, .ref (G.2.2.2 + q0)), (1, .int a1), (2, .int a2)] := hl
  generalize Aw G.2.2.2 skC.1 s.heap.size = A0 at E hW ⊢
  generalize ([.ref (G.2.2.2 + q0), .int a1, .int a2] : List Value).toArray = args
  unfold f_X6_step at h
  refine lv_aload_n E.1 E.2.1 dX6_step_0 rfl (lv_at hl 0 rfl) ?_
  refine lv_iconst (v := (0 : Int32)) E.1 E.2.1 dX6_step_1 (by decide) ?_
  obtain ⟨g1, h⟩ := gd_r h
  obtain ⟨r5, σ2, c4, hE, hN⟩ := obx_r2 h
  refine c_VX (As := [.int (0 : Int32)]) (rest := []) E hW (m_X6_requireDefined hl9 c4) g1 rfl kw_660 wv_X6_requireDefined yo_X6_requireDefined ⟨rfl, rfl⟩ ⟨(Nat.le_of_ble_eq_true rfl), (Nat.le_of_ble_eq_true rfl)⟩ (lv_size hl) (Nat.le_of_ble_eq_true rfl) ⟨(Nat.le_of_ble_eq_true rfl), (Nat.le_of_ble_eq_true rfl)⟩ rfl dX6_step_2 (fun ex ce q9 H locs hrv hW h1 h2 h3 => ?_) (fun v9 H locs hrv hW => ?_)
  · exact x_outI hW ht hlk h1 h2 h3 (hE ex (rvR_inl hrv)) (Nat.le_of_ble_eq_true rfl) (Nat.le_of_ble_eq_true rfl)
  obtain ⟨q3, qv, h⟩ := rvR_inr hrv hN
  subst qv
  refine W.eq (g2 := F0 m 5 ls [.ref (G.2.2.2 + q3)]) rfl ?_
  refine lv_astore_n (lv' := [(3, .ref (G.2.2.2 + q3)), (0, .ref (G.2.2.2 + q0)), (1, .int a1), (2, .int a2)]) E.1 E.2.1 dX6_step_5 rfl hl (by decide) rfl (fun ls hl => ?_)
  refine lv_aload_n E.1 E.2.1 dX6_step_6 rfl (lv_at hl 1 rfl) ?_
  refine lv_iconst (v := (1 : Int32)) E.1 E.2.1 dX6_step_7 (by decide) ?_
  obtain ⟨r9, σ6, c8, hE, hN⟩ := obx_r2 h
  refine c_VX (As := [.int (1 : Int32)]) (rest := []) E hW (m_X6_requireDefined hl9 c8) g1 rfl kw_660 wv_X6_requireDefined yo_X6_requireDefined ⟨rfl, rfl⟩ ⟨(Nat.le_of_ble_eq_true rfl), (Nat.le_of_ble_eq_true rfl)⟩ (lv_size hl) (Nat.le_of_ble_eq_true rfl) ⟨(Nat.le_of_ble_eq_true rfl), (Nat.le_of_ble_eq_true rfl)⟩ rfl dX6_step_8 (fun ex ce q9 H locs hrv hW h1 h2 h3 => ?_) (fun v9 H locs hrv hW => ?_)
  · exact x_outI hW ht hlk h1 h2 h3 (hE ex (rvR_inl hrv)) (Nat.le_of_ble_eq_true rfl) (Nat.le_of_ble_eq_true rfl)
  obtain ⟨q7, qv, h⟩ := rvR_inr hrv hN
  subst qv
  refine W.eq (g2 := F0 m 11 ls [.ref (G.2.2.2 + q7)]) rfl ?_
  refine lv_astore (lv' := [(4, .ref (G.2.2.2 + q7)), (3, .ref (G.2.2.2 + q3)), (0, .ref (G.2.2.2 + q0)), (1, .int a1), (2, .int a2)]) E.1 E.2.1 dX6_step_11 hl (by decide) rfl (fun ls hl => ?_)
  refine lv_aload_n E.1 E.2.1 dX6_step_13 rfl (lv_at hl 2 rfl) ?_
  refine lv_iconst (v := (2 : Int32)) E.1 E.2.1 dX6_step_14 (by decide) ?_
  obtain ⟨r13, σ10, c12, hE, hN⟩ := obx_r2 h
  refine c_VX (As := [.int (2 : Int32)]) (rest := []) E hW (m_X6_requireDefined hl9 c12) g1 rfl kw_660 wv_X6_requireDefined yo_X6_requireDefined ⟨rfl, rfl⟩ ⟨(Nat.le_of_ble_eq_true rfl), (Nat.le_of_ble_eq_true rfl)⟩ (lv_size hl) (Nat.le_of_ble_eq_true rfl) ⟨(Nat.le_of_ble_eq_true rfl), (Nat.le_of_ble_eq_true rfl)⟩ rfl dX6_step_15 (fun ex ce q9 H locs hrv hW h1 h2 h3 => ?_) (fun v9 H locs hrv hW => ?_)
  · exact x_outI hW ht hlk h1 h2 h3 (hE ex (rvR_inl hrv)) (Nat.le_of_ble_eq_true rfl) (Nat.le_of_ble_eq_true rfl)
  obtain ⟨q11, qv, h⟩ := rvR_inr hrv hN
  subst qv
  refine W.eq (g2 := F0 m 18 ls [.ref (G.2.2.2 + q11)]) rfl ?_
  refine lv_astore (lv' := [(5, .ref (G.2.2.2 + q11)), (4, .ref (G.2.2.2 + q7)), (3, .ref (G.2.2.2 + q3)), (0, .ref (G.2.2.2 + q0)), (1, .int a1), (2, .int a2)]) E.1 E.2.1 dX6_step_18 hl (by decide) rfl (fun ls hl => ?_)
  refine lv_aload_n E.1 E.2.1 dX6_step_20 rfl (lv_at hl 3 rfl) ?_
  refine lv_iconst (v := (3 : Int32)) E.1 E.2.1 dX6_step_21 (by decide) ?_
  obtain ⟨r17, σ14, c16, hE, hN⟩ := obx_r2 h
  refine c_VX (As := [.int (3 : Int32)]) (rest := []) E hW (m_X6_requireDefined hl9 c16) g1 rfl kw_660 wv_X6_requireDefined yo_X6_requireDefined ⟨rfl, rfl⟩ ⟨(Nat.le_of_ble_eq_true rfl), (Nat.le_of_ble_eq_true rfl)⟩ (lv_size hl) (Nat.le_of_ble_eq_true rfl) ⟨(Nat.le_of_ble_eq_true rfl), (Nat.le_of_ble_eq_true rfl)⟩ rfl dX6_step_22 (fun ex ce q9 H locs hrv hW h1 h2 h3 => ?_) (fun v9 H locs hrv hW => ?_)
  · exact x_outI hW ht hlk h1 h2 h3 (hE ex (rvR_inl hrv)) (Nat.le_of_ble_eq_true rfl) (Nat.le_of_ble_eq_true rfl)
  obtain ⟨q15, qv, h⟩ := rvR_inr hrv hN
  subst qv
  refine W.eq (g2 := F0 m 25 ls [.ref (G.2.2.2 + q15)]) rfl ?_
  refine lv_astore (lv' := [(6, .ref (G.2.2.2 + q15)), (5, .ref (G.2.2.2 + q11)), (4, .ref (G.2.2.2 + q7)), (3, .ref (G.2.2.2 + q3)), (0, .ref (G.2.2.2 + q0)), (1, .int a1), (2, .int a2)]) E.1 E.2.1 dX6_step_25 hl (by decide) rfl (fun ls hl => ?_)
  refine lv_iload_n E.1 E.2.1 dX6_step_27 rfl (lv_at hl 5 rfl) ?_
  refine lv_i2l E.1 E.2.1 dX6_step_28 rfl ?_
  refine lv_ldc2 (v := (-1000 : Int64)) E.1 E.2.1 E.2.2.2.1 (E.wd kw_722) dX6_step_29 ?_
  refine lv_ldc2 (v := (1000 : Int64)) E.1 E.2.1 E.2.2.2.1 (E.wd kw_723) dX6_step_32 ?_
  obtain ⟨r20, σ18, c19, hE, hN⟩ := obx_r2 h
  refine c_SX (As := [.long a1.toInt64, .long (-1000 : Int64), .long (1000 : Int64)]) (rest := []) E hW (m_X6_requireBetween hl9 c19) kw_724 ws_X6_requireBetween yo_X6_requireBetween ⟨rfl, rfl⟩ ⟨(Nat.le_of_ble_eq_true rfl), (Nat.le_of_ble_eq_true rfl)⟩ (lv_size hl) (Nat.le_of_ble_eq_true rfl) ⟨(Nat.le_of_ble_eq_true rfl), (Nat.le_of_ble_eq_true rfl)⟩ rfl dX6_step_35 (fun ex ce q9 H locs hrv hW h1 h2 h3 => ?_) (fun v9 H locs hrv hW => ?_)
  · exact x_outI hW ht hlk h1 h2 h3 (hE ex (rvV_inl hrv)) (Nat.le_of_ble_eq_true rfl) (Nat.le_of_ble_eq_true rfl)
  obtain ⟨-, qv, h⟩ := rvV_inr hrv hN
  subst qv
  refine W.eq (g2 := F0 m 38 ls []) rfl ?_
  refine lv_iload_n E.1 E.2.1 dX6_step_38 rfl (lv_at hl 6 rfl) ?_
  refine lv_i2l E.1 E.2.1 dX6_step_39 rfl ?_
  refine lv_lconst (v := (1 : Int64)) E.1 E.2.1 dX6_step_40 (by decide) ?_
  refine lv_ldc2 (v := (20 : Int64)) E.1 E.2.1 E.2.2.2.1 (E.wd kw_842) dX6_step_41 ?_
  obtain ⟨r23, σ21, c22, hE, hN⟩ := obx_r2 h
  refine c_SX (As := [.long a2.toInt64, .long (1 : Int64), .long (20 : Int64)]) (rest := []) E hW (m_X6_requireBetween hl9 c22) kw_724 ws_X6_requireBetween yo_X6_requireBetween ⟨rfl, rfl⟩ ⟨(Nat.le_of_ble_eq_true rfl), (Nat.le_of_ble_eq_true rfl)⟩ (lv_size hl) (Nat.le_of_ble_eq_true rfl) ⟨(Nat.le_of_ble_eq_true rfl), (Nat.le_of_ble_eq_true rfl)⟩ rfl dX6_step_44 (fun ex ce q9 H locs hrv hW h1 h2 h3 => ?_) (fun v9 H locs hrv hW => ?_)
  · exact x_outI hW ht hlk h1 h2 h3 (hE ex (rvV_inl hrv)) (Nat.le_of_ble_eq_true rfl) (Nat.le_of_ble_eq_true rfl)
  obtain ⟨-, qv, h⟩ := rvV_inr hrv hN
  subst qv
  refine W.eq (g2 := F0 m 47 ls []) rfl ?_
  refine lv_aload_n E.1 E.2.1 dX6_step_47 rfl (lv_at hl 4 rfl) ?_
  refine gf_X6_19 E hW g1 dX6_step_48 ?_
  refine lv_aload_n E.1 E.2.1 dX6_step_51 rfl (lv_at hl 4 rfl) ?_
  refine gf_X6_10 E hW g1 dX6_step_52 ?_
  obtain ⟨g24, h⟩ := gd_r h
  obtain ⟨_r, σ25, c26, h⟩ := obn_r h
  refine c_V (As := [.ref (G.2.2.2 + (rC q0 0))]) (rest := []) E hW (m_X1_remember c26) g24 rfl kw_616 wv_X1_remember yo_X1_remember ⟨rfl, rfl⟩ ⟨(Nat.le_of_ble_eq_true rfl), (Nat.le_of_ble_eq_true rfl)⟩ (lv_size hl) (Nat.le_of_ble_eq_true rfl) ⟨(Nat.le_of_ble_eq_true rfl), (Nat.le_of_ble_eq_true rfl)⟩ rfl dX6_step_55 (fun H locs hW => ?_)
  refine W.eq (g2 := F0 m 58 ls []) rfl ?_
  refine lv_iconst (v := (0 : Int32)) E.1 E.2.1 dX6_step_58 (by decide) ?_
  refine lv_istore (lv' := [(7, .int (0 : Int32)), (6, .ref (G.2.2.2 + q15)), (5, .ref (G.2.2.2 + q11)), (4, .ref (G.2.2.2 + q7)), (3, .ref (G.2.2.2 + q3)), (0, .ref (G.2.2.2 + q0)), (1, .int a1), (2, .int a2)]) E.1 E.2.1 dX6_step_59 hl (by decide) rfl (fun ls hl => ?_)
  refine L_X6_step_61 E hr hlk hl9 ht _ _ _ _ _ _ _ _ _ _ _ _ _ h hW (lv_sub hl [5, 6, 7, 4, 3, 2, 1, 0] rfl)
set_option maxHeartbeats 4000000 in
set_option maxRecDepth 100000 in
theorem m_X6_sweep {l : Launch} {G : GP} {sz : Nat} {q0 : Nat} {a1 : Int32} {a2 : Int32} {σ σ0 : St} {r0 : (Nat ⊕ Int32)} (hl9 : l.stackTraces = false) (h : f_X6_sweep q0 a1 a2 σ = some (r0, σ0)) : vx_Met l yX6_sweep [.code yX6_sweep cX6_sweep 4 (some .int)] ({ frames := 7, cells := 4, slots := 24, locals := 146 } : Room) (va_Pc [.ref (G.2.2.2 + q0), .int a1, .int a2] (PreC G skC sz σ)) (QX (PoC G skC σ0) (Aw G.2.2.2 skC.1 sz) (rvI r0)) (XX (PoC G skC σ0) (Aw G.2.2.2 skC.1 sz) (rvI r0)) 4 24 (Aw G.2.2.2 skC.1 sz) := by
  refine mkMetX (by decide +kernel) (Nat.le_of_ble_eq_true rfl) skC_ok ?_
  intro p e s m below meth c ls E hW hl hr hlk ht
  have hl : lv_has ls 4 [(0, .ref (G.2.2.2 + q0)), (1, .int a1), (2, .int a2)] := hl
  generalize Aw G.2.2.2 skC.1 s.heap.size = A0 at E hW ⊢
  generalize ([.ref (G.2.2.2 + q0), .int a1, .int a2] : List Value).toArray = args
  unfold f_X6_sweep at h
  refine lv_iload_n E.1 E.2.1 dX6_sweep_0 rfl (lv_at hl 1 rfl) ?_
  obtain ⟨r3, σ1, c2, hE, hN⟩ := obx_r2 h
  refine c_SX (As := [.int a1]) (rest := []) E hW (m_X6_requireIndex hl9 c2) kw_641 ws_X6_requireIndex yo_X6_requireIndex ⟨rfl, rfl⟩ ⟨(Nat.le_of_ble_eq_true rfl), (Nat.le_of_ble_eq_true rfl)⟩ (lv_size hl) (Nat.le_of_ble_eq_true rfl) ⟨(Nat.le_of_ble_eq_true rfl), (Nat.le_of_ble_eq_true rfl)⟩ rfl dX6_sweep_1 (fun ex ce q9 H locs hrv hW h1 h2 h3 => ?_) (fun v9 H locs hrv hW => ?_)
  · exact x_outI hW ht hlk h1 h2 h3 (hE ex (rvV_inl hrv)) (Nat.le_of_ble_eq_true rfl) (Nat.le_of_ble_eq_true rfl)
  obtain ⟨-, qv, h⟩ := rvV_inr hrv hN
  subst qv
  refine W.eq (g2 := F0 m 4 ls []) rfl ?_
  refine lv_aload_n E.1 E.2.1 dX6_sweep_4 rfl (lv_at hl 0 rfl) ?_
  obtain ⟨g4, h⟩ := gd_r h
  refine gf_X6_40 E hW g4 dX6_sweep_5 ?_
  refine lv_aload_n E.1 E.2.1 dX6_sweep_8 rfl (lv_at hl 0 rfl) ?_
  refine lv_iload_n E.1 E.2.1 dX6_sweep_9 rfl (lv_at hl 1 rfl) ?_
  obtain ⟨r8, σ5, c7, hE, hN⟩ := obx_r2 h
  refine c_VX (As := [.int a1]) (rest := [.ref (G.2.2.2 + (rC q0 4))]) E hW (m_X6_requireDefined hl9 c7) g4 rfl kw_660 wv_X6_requireDefined yo_X6_requireDefined ⟨rfl, rfl⟩ ⟨(Nat.le_of_ble_eq_true rfl), (Nat.le_of_ble_eq_true rfl)⟩ (lv_size hl) (Nat.le_of_ble_eq_true rfl) ⟨(Nat.le_of_ble_eq_true rfl), (Nat.le_of_ble_eq_true rfl)⟩ rfl dX6_sweep_10 (fun ex ce q9 H locs hrv hW h1 h2 h3 => ?_) (fun v9 H locs hrv hW => ?_)
  · exact x_outI hW ht hlk h1 h2 h3 (hE ex (rvR_inl hrv)) (Nat.le_of_ble_eq_true rfl) (Nat.le_of_ble_eq_true rfl)
  obtain ⟨q6, qv, h⟩ := rvR_inr hrv hN
  subst qv
  refine W.eq (g2 := F0 m 13 ls [.ref (G.2.2.2 + q6), .ref (G.2.2.2 + (rC q0 4))]) rfl ?_
  obtain ⟨g9, h⟩ := gd_r h
  obtain ⟨_r, σ10, c11, h⟩ := obn_r h
  refine c_V (As := [.ref (G.2.2.2 + q6)]) (rest := []) E hW (m_X2_copyFrom c11) g9 rfl kw_855 wv_X2_copyFrom yo_X2_copyFrom ⟨rfl, rfl⟩ ⟨(Nat.le_of_ble_eq_true rfl), (Nat.le_of_ble_eq_true rfl)⟩ (lv_size hl) (Nat.le_of_ble_eq_true rfl) ⟨(Nat.le_of_ble_eq_true rfl), (Nat.le_of_ble_eq_true rfl)⟩ rfl dX6_sweep_13 (fun H locs hW => ?_)
  refine W.eq (g2 := F0 m 16 ls []) rfl ?_
  refine lv_iload_n E.1 E.2.1 dX6_sweep_16 rfl (lv_at hl 2 rfl) ?_
  refine lv_i2l E.1 E.2.1 dX6_sweep_17 rfl ?_
  refine lv_lconst (v := (0 : Int64)) E.1 E.2.1 dX6_sweep_18 (by decide) ?_
  refine lv_ldc2 (v := (100000000 : Int64)) E.1 E.2.1 E.2.2.2.1 (E.wd kw_856) dX6_sweep_19 ?_
  obtain ⟨r14, σ12, c13, hE, hN⟩ := obx_r2 h
  refine c_SX (As := [.long a2.toInt64, .long (0 : Int64), .long (100000000 : Int64)]) (rest := []) E hW (m_X6_requireBetween hl9 c13) kw_724 ws_X6_requireBetween yo_X6_requireBetween ⟨rfl, rfl⟩ ⟨(Nat.le_of_ble_eq_true rfl), (Nat.le_of_ble_eq_true rfl)⟩ (lv_size hl) (Nat.le_of_ble_eq_true rfl) ⟨(Nat.le_of_ble_eq_true rfl), (Nat.le_of_ble_eq_true rfl)⟩ rfl dX6_sweep_22 (fun ex ce q9 H locs hrv hW h1 h2 h3 => ?_) (fun v9 H locs hrv hW => ?_)
  · exact x_outI hW ht hlk h1 h2 h3 (hE ex (rvV_inl hrv)) (Nat.le_of_ble_eq_true rfl) (Nat.le_of_ble_eq_true rfl)
  obtain ⟨-, qv, h⟩ := rvV_inr hrv hN
  subst qv
  refine W.eq (g2 := F0 m 25 ls []) rfl ?_
  refine lv_aload_n E.1 E.2.1 dX6_sweep_25 rfl (lv_at hl 0 rfl) ?_
  refine gf_X6_40 E hW g4 dX6_sweep_26 ?_
  refine lv_iload_n E.1 E.2.1 dX6_sweep_29 rfl (lv_at hl 2 rfl) ?_
  refine lv_i2l E.1 E.2.1 dX6_sweep_30 rfl ?_
  obtain ⟨x16, σ15, c17, h⟩ := obn_r h
  refine c_V (As := [.long a2.toInt64]) (rest := []) E hW (m_X2_sweepUpTo c17) g9 rfl kw_857 wv_X2_sweepUpTo yo_X2_sweepUpTo ⟨rfl, rfl⟩ ⟨(Nat.le_of_ble_eq_true rfl), (Nat.le_of_ble_eq_true rfl)⟩ (lv_size hl) (Nat.le_of_ble_eq_true rfl) ⟨(Nat.le_of_ble_eq_true rfl), (Nat.le_of_ble_eq_true rfl)⟩ rfl dX6_sweep_31 (fun H locs hW => ?_)
  refine W.eq (g2 := F0 m 34 ls [.int x16]) rfl ?_
  refine lv_istore_n (lv' := [(3, .int x16), (0, .ref (G.2.2.2 + q0)), (1, .int a1), (2, .int a2)]) E.1 E.2.1 dX6_sweep_34 rfl hl (by decide) rfl (fun ls hl => ?_)
  refine lv_aload_n E.1 E.2.1 dX6_sweep_35 rfl (lv_at hl 1 rfl) ?_
  refine lv_iload_n E.1 E.2.1 dX6_sweep_36 rfl (lv_at hl 2 rfl) ?_
  refine lv_aload_n E.1 E.2.1 dX6_sweep_37 rfl (lv_at hl 1 rfl) ?_
  refine gf_X6_40 E hW g4 dX6_sweep_38 ?_
  obtain ⟨x19, σ18, c20, h⟩ := obn_r h
  refine c_V (As := []) (rest := [.int a1, .ref (G.2.2.2 + q0)]) E hW (m_X2_fits c20) g9 rfl kw_862 wv_X2_fits yo_X2_fits ⟨rfl, rfl⟩ ⟨(Nat.le_of_ble_eq_true rfl), (Nat.le_of_ble_eq_true rfl)⟩ (lv_size hl) (Nat.le_of_ble_eq_true rfl) ⟨(Nat.le_of_ble_eq_true rfl), (Nat.le_of_ble_eq_true rfl)⟩ rfl dX6_sweep_41 (fun H locs hW => ?_)
  refine W.eq (g2 := F0 m 44 ls [.int x19, .int a1, .ref (G.2.2.2 + q0)]) rfl ?_
  obtain ⟨r24, σ21, c23, hE, hN⟩ := obx_r2 h
  refine c_VX (As := [.int a1, .int x19]) (rest := []) E hW (m_X6_settle hl9 c23) g4 rfl kw_779 wv_X6_settle yo_X6_settle ⟨rfl, rfl⟩ ⟨(Nat.le_of_ble_eq_true rfl), (Nat.le_of_ble_eq_true rfl)⟩ (lv_size hl) (Nat.le_of_ble_eq_true rfl) ⟨(Nat.le_of_ble_eq_true rfl), (Nat.le_of_ble_eq_true rfl)⟩ rfl dX6_sweep_44 (fun ex ce q9 H locs hrv hW h1 h2 h3 => ?_) (fun v9 H locs hrv hW => ?_)
  · exact x_outI hW ht hlk h1 h2 h3 (hE ex (rvI_inl hrv)) (Nat.le_of_ble_eq_true rfl) (Nat.le_of_ble_eq_true rfl)
  obtain ⟨x22, qv, h⟩ := rvI_inr hrv hN
  subst qv
  refine W.eq (g2 := F0 m 47 ls [.int x22]) rfl ?_
  refine lv_pop E.1 E.2.1 dX6_sweep_47 rfl ?_
  refine lv_iload_n E.1 E.2.1 dX6_sweep_48 rfl (lv_at hl 0 rfl) ?_
  exact x_i E hW hr hlk h (Nat.le_of_ble_eq_true rfl) (Nat.le_of_ble_eq_true rfl) dX6_sweep_49
set_option maxHeartbeats 4000000 in
set_option maxRecDepth 100000 in
theorem m_X6_wrap {l : Launch} {G : GP} {sz : Nat} {q0 : Nat} {a1 : Int32} {a2 : Int32} {σ σ0 : St} {r0 : (Nat ⊕ Int32)} (hl9 : l.stackTraces = false) (h : f_X6_wrap q0 a1 a2 σ = some (r0, σ0)) : vx_Met l yX6_wrap [.code yX6_wrap cX6_wrap 8 (some .int)] ({ frames := 7, cells := 4, slots := 24, locals := 146 } : Room) (va_Pc [.ref (G.2.2.2 + q0), .int a1, .int a2] (PreC G skC sz σ)) (QX (PoC G skC σ0) (Aw G.2.2.2 skC.1 sz) (rvI r0)) (XX (PoC G skC σ0) (Aw G.2.2.2 skC.1 sz) (rvI r0)) 4 24 (Aw G.2.2.2 skC.1 sz) := by
  refine mkMetX (by decide +kernel) (Nat.le_of_ble_eq_true rfl) skC_ok ?_
  intro p e s m below meth c ls E hW hl hr hlk ht
  have hl : lv_has ls 8 [(0, .ref (G.2.2.2 + q0)), (1, .int a1), (2, .int a2)] := hl
  generalize Aw G.2.2.2 skC.1 s.heap.size = A0 at E hW ⊢
  generalize ([.ref (G.2.2.2 + q0), .int a1, .int a2] : List Value).toArray = args
  unfold f_X6_wrap at h
  refine lv_iload_n E.1 E.2.1 dX6_wrap_0 rfl (lv_at hl 1 rfl) ?_
  obtain ⟨r3, σ1, c2, hE, hN⟩ := obx_r2 h
  refine c_SX (As := [.int a1]) (rest := []) E hW (m_X6_requireIndex hl9 c2) kw_641 ws_X6_requireIndex yo_X6_requireIndex ⟨rfl, rfl⟩ ⟨(Nat.le_of_ble_eq_true rfl), (Nat.le_of_ble_eq_true rfl)⟩ (lv_size hl) (Nat.le_of_ble_eq_true rfl) ⟨(Nat.le_of_ble_eq_true rfl), (Nat.le_of_ble_eq_true rfl)⟩ rfl dX6_wrap_1 (fun ex ce q9 H locs hrv hW h1 h2 h3 => ?_) (fun v9 H locs hrv hW => ?_)
  · exact x_outI hW ht hlk h1 h2 h3 (hE ex (rvV_inl hrv)) (Nat.le_of_ble_eq_true rfl) (Nat.le_of_ble_eq_true rfl)
  obtain ⟨-, qv, h⟩ := rvV_inr hrv hN
  subst qv
  refine W.eq (g2 := F0 m 4 ls []) rfl ?_
  refine lv_aload_n E.1 E.2.1 dX6_wrap_4 rfl (lv_at hl 0 rfl) ?_
  refine lv_iload_n E.1 E.2.1 dX6_wrap_5 rfl (lv_at hl 1 rfl) ?_
  obtain ⟨g4, h⟩ := gd_r h
  obtain ⟨r8, σ5, c7, hE, hN⟩ := obx_r2 h
  refine c_VX (As := [.int a1]) (rest := []) E hW (m_X6_requireDefined hl9 c7) g4 rfl kw_660 wv_X6_requireDefined yo_X6_requireDefined ⟨rfl, rfl⟩ ⟨(Nat.le_of_ble_eq_true rfl), (Nat.le_of_ble_eq_true rfl)⟩ (lv_size hl) (Nat.le_of_ble_eq_true rfl) ⟨(Nat.le_of_ble_eq_true rfl), (Nat.le_of_ble_eq_true rfl)⟩ rfl dX6_wrap_6 (fun ex ce q9 H locs hrv hW h1 h2 h3 => ?_) (fun v9 H locs hrv hW => ?_)
  · exact x_outI hW ht hlk h1 h2 h3 (hE ex (rvR_inl hrv)) (Nat.le_of_ble_eq_true rfl) (Nat.le_of_ble_eq_true rfl)
  obtain ⟨q6, qv, h⟩ := rvR_inr hrv hN
  subst qv
  refine W.eq (g2 := F0 m 9 ls [.ref (G.2.2.2 + q6)]) rfl ?_
  refine lv_astore_n (lv' := [(3, .ref (G.2.2.2 + q6)), (0, .ref (G.2.2.2 + q0)), (1, .int a1), (2, .int a2)]) E.1 E.2.1 dX6_wrap_9 rfl hl (by decide) rfl (fun ls hl => ?_)
  refine lv_iload_n E.1 E.2.1 dX6_wrap_10 rfl (lv_at hl 3 rfl) ?_
  obtain ⟨r11, σ9, c10, hE, hN⟩ := obx_r2 h
  refine c_SX (As := [.int a2]) (rest := []) E hW (m_X6_requireZeroOrOne hl9 c10) kw_696 ws_X6_requireZeroOrOne yo_X6_requireZeroOrOne ⟨rfl, rfl⟩ ⟨(Nat.le_of_ble_eq_true rfl), (Nat.le_of_ble_eq_true rfl)⟩ (lv_size hl) (Nat.le_of_ble_eq_true rfl) ⟨(Nat.le_of_ble_eq_true rfl), (Nat.le_of_ble_eq_true rfl)⟩ rfl dX6_wrap_11 (fun ex ce q9 H locs hrv hW h1 h2 h3 => ?_) (fun v9 H locs hrv hW => ?_)
  · exact x_outI hW ht hlk h1 h2 h3 (hE ex (rvV_inl hrv)) (Nat.le_of_ble_eq_true rfl) (Nat.le_of_ble_eq_true rfl)
  obtain ⟨-, qv, h⟩ := rvV_inr hrv hN
  subst qv
  refine W.eq (g2 := F0 m 14 ls []) rfl ?_
  refine lv_aload_n E.1 E.2.1 dX6_wrap_14 rfl (lv_at hl 0 rfl) ?_
  obtain ⟨g12, h⟩ := gd_r h
  obtain ⟨x14, σ13, c15, h⟩ := obn_r h
  refine c_V (As := []) (rest := []) E hW (m_X2_boundHigh c15) g12 rfl kw_711 wv_X2_boundHigh yo_X2_boundHigh ⟨rfl, rfl⟩ ⟨(Nat.le_of_ble_eq_true rfl), (Nat.le_of_ble_eq_true rfl)⟩ (lv_size hl) (Nat.le_of_ble_eq_true rfl) ⟨(Nat.le_of_ble_eq_true rfl), (Nat.le_of_ble_eq_true rfl)⟩ rfl dX6_wrap_15 (fun H locs hW => ?_)
  refine W.eq (g2 := F0 m 18 ls [.long x14]) rfl ?_
  refine lv_lstore (lv' := [(4, .long x14), (3, .ref (G.2.2.2 + q6)), (0, .ref (G.2.2.2 + q0)), (1, .int a1), (2, .int a2)]) E.1 E.2.1 dX6_wrap_18 hl (by decide) rfl (fun ls hl => ?_)
  refine lv_aload_n E.1 E.2.1 dX6_wrap_20 rfl (lv_at hl 1 rfl) ?_
  obtain ⟨x17, σ16, c18, h⟩ := obn_r h
  refine c_V (As := []) (rest := []) E hW (m_X2_boundLow c18) g12 rfl kw_707 wv_X2_boundLow yo_X2_boundLow ⟨rfl, rfl⟩ ⟨(Nat.le_of_ble_eq_true rfl), (Nat.le_of_ble_eq_true rfl)⟩ (lv_size hl) (Nat.le_of_ble_eq_true rfl) ⟨(Nat.le_of_ble_eq_true rfl), (Nat.le_of_ble_eq_true rfl)⟩ rfl dX6_wrap_21 (fun H locs hW => ?_)
  refine W.eq (g2 := F0 m 24 ls [.long x17]) rfl ?_
  refine lv_lload E.1 E.2.1 dX6_wrap_24 (lv_at hl 0 rfl) ?_
  refine lv_ladd E.1 E.2.1 dX6_wrap_26 ?_
  refine lv_ldc2 (v := (2 : Int64)) E.1 E.2.1 E.2.2.2.1 (E.wd kw_870) dX6_wrap_27 ?_
  obtain ⟨x20, σ19, c21, h⟩ := obn_r h
  refine c_S (As := [.long (x17 + x14), .long (2 : Int64)]) (rest := []) E hW (m_J9_floorDiv_f86c9 c21) kw_735 ws_J9_floorDiv_f86c9 yo_J9_floorDiv_f86c9 ⟨rfl, rfl⟩ ⟨(Nat.le_of_ble_eq_true rfl), (Nat.le_of_ble_eq_true rfl)⟩ (lv_size hl) (Nat.le_of_ble_eq_true rfl) ⟨(Nat.le_of_ble_eq_true rfl), (Nat.le_of_ble_eq_true rfl)⟩ rfl dX6_wrap_30 (fun H locs hW => ?_)
  refine W.eq (g2 := F0 m 33 ls [.long x20]) rfl ?_
  refine lv_lstore (lv' := [(6, .long x20), (4, .long x14), (3, .ref (G.2.2.2 + q6)), (0, .ref (G.2.2.2 + q0)), (1, .int a1), (2, .int a2)]) E.1 E.2.1 dX6_wrap_33 hl (by decide) rfl (fun ls hl => ?_)
  refine lv_aload_n E.1 E.2.1 dX6_wrap_35 rfl (lv_at hl 3 rfl) ?_
  refine gf_X6_40 E hW g4 dX6_wrap_36 ?_
  refine lv_lload E.1 E.2.1 dX6_wrap_39 (lv_at hl 0 rfl) ?_
  obtain ⟨g22, h⟩ := gd_r h
  obtain ⟨_r, σ23, c24, h⟩ := obn_r h
  refine c_V (As := [.long x20]) (rest := []) E hW (m_X2_becomeConstant c24) g22 rfl kw_871 wv_X2_becomeConstant yo_X2_becomeConstant ⟨rfl, rfl⟩ ⟨(Nat.le_of_ble_eq_true rfl), (Nat.le_of_ble_eq_true rfl)⟩ (lv_size hl) (Nat.le_of_ble_eq_true rfl) ⟨(Nat.le_of_ble_eq_true rfl), (Nat.le_of_ble_eq_true rfl)⟩ rfl dX6_wrap_41 (fun H locs hW => ?_)
  refine W.eq (g2 := F0 m 44 ls []) rfl ?_
  refine lv_aload_n E.1 E.2.1 dX6_wrap_44 rfl (lv_at hl 3 rfl) ?_
  refine gf_X6_40 E hW g4 dX6_wrap_45 ?_
  refine lv_iload_n E.1 E.2.1 dX6_wrap_48 rfl (lv_at hl 5 rfl) ?_
  obtain ⟨J32, eJ32, h⟩ := bnd_x h
  have hJ32 : ∀ (q26 : Nat) (x27 : Int32) (x28 : Int64) (x29 : Int64) (x30 : Int32) (q31 : Nat) (σ25 : St) (H : Heap) (locs : List Loc) (ls : Array Slot), J32 q26 x27 x28 x29 x30 q31 σ25 = some (r0, σ0) → Wo G skC A0 s σ25 H locs → lv_has ls 8 [(0, .ref (G.2.2.2 + q26)), (1, .int x27), (4, .long x28), (6, .long x29)] → W p l e ({ frames := 7, cells := 4, slots := 24, locals := 146 } : Room) s m args below meth c H locs 3 18 (vx_MQ below (QX (PoC G skC σ0) A0 (rvI r0)) (XX (PoC G skC σ0) A0 (rvI r0)) args s 4 24 A0) (F0 m 57 ls [.int x30, .ref (G.2.2.2 + q31)]) := by
    intro q26 x27 x28 x29 x30 q31 σ25 H locs ls h hW hl
    have h := jr7 eJ32 h
    refine lv_lload E.1 E.2.1 dX6_wrap_57 (lv_at hl 2 rfl) ?_
    refine lv_lload E.1 E.2.1 dX6_wrap_59 (lv_at hl 3 rfl) ?_
    refine lv_lsub E.1 E.2.1 dX6_wrap_61 ?_
    obtain ⟨g33, h⟩ := gd_r h
    obtain ⟨_r, σ34, c35, h⟩ := obn_r h
    refine c_V (As := [.int x30, .long (x28 - x29)]) (rest := []) E hW (m_X2_setCoefficientAt c35) g33 rfl kw_872 wv_X2_setCoefficientAt yo_X2_setCoefficientAt ⟨rfl, rfl⟩ ⟨(Nat.le_of_ble_eq_true rfl), (Nat.le_of_ble_eq_true rfl)⟩ (lv_size hl) (Nat.le_of_ble_eq_true rfl) ⟨(Nat.le_of_ble_eq_true rfl), (Nat.le_of_ble_eq_true rfl)⟩ rfl dX6_wrap_62 (fun H locs hW => ?_)
    refine W.eq (g2 := F0 m 65 ls []) rfl ?_
    refine lv_aload_n E.1 E.2.1 dX6_wrap_65 rfl (lv_at hl 0 rfl) ?_
    refine lv_iload_n E.1 E.2.1 dX6_wrap_66 rfl (lv_at hl 1 rfl) ?_
    refine lv_aload_n E.1 E.2.1 dX6_wrap_67 rfl (lv_at hl 0 rfl) ?_
    obtain ⟨g36, h⟩ := gd_r h
    refine gf_X6_40 E hW g36 dX6_wrap_68 ?_
    obtain ⟨g37, h⟩ := gd_r h
    obtain ⟨x39, σ38, c40, h⟩ := obn_r h
    refine c_V (As := []) (rest := [.int x27, .ref (G.2.2.2 + q26)]) E hW (m_X2_fits c40) g37 rfl kw_862 wv_X2_fits yo_X2_fits ⟨rfl, rfl⟩ ⟨(Nat.le_of_ble_eq_true rfl), (Nat.le_of_ble_eq_true rfl)⟩ (lv_size hl) (Nat.le_of_ble_eq_true rfl) ⟨(Nat.le_of_ble_eq_true rfl), (Nat.le_of_ble_eq_true rfl)⟩ rfl dX6_wrap_71 (fun H locs hW => ?_)
    refine W.eq (g2 := F0 m 74 ls [.int x39, .int x27, .ref (G.2.2.2 + q26)]) rfl ?_
    obtain ⟨r44, σ41, c43, hE, hN⟩ := obx_r2 h
    refine c_VX (As := [.int x27, .int x39]) (rest := []) E hW (m_X6_settle hl9 c43) g36 rfl kw_779 wv_X6_settle yo_X6_settle ⟨rfl, rfl⟩ ⟨(Nat.le_of_ble_eq_true rfl), (Nat.le_of_ble_eq_true rfl)⟩ (lv_size hl) (Nat.le_of_ble_eq_true rfl) ⟨(Nat.le_of_ble_eq_true rfl), (Nat.le_of_ble_eq_true rfl)⟩ rfl dX6_wrap_74 (fun ex ce q9 H locs hrv hW h1 h2 h3 => ?_) (fun v9 H locs hrv hW => ?_)
    · exact x_outI hW ht hlk h1 h2 h3 (hE ex (rvI_inl hrv)) (Nat.le_of_ble_eq_true rfl) (Nat.le_of_ble_eq_true rfl)
    obtain ⟨x42, qv, h⟩ := rvI_inr hrv hN
    subst qv
    refine W.eq (g2 := F0 m 77 ls [.int x42]) rfl ?_
    refine lv_pop E.1 E.2.1 dX6_wrap_77 rfl ?_
    refine lv_lload E.1 E.2.1 dX6_wrap_78 (lv_at hl 2 rfl) ?_
    refine lv_lload E.1 E.2.1 dX6_wrap_80 (lv_at hl 3 rfl) ?_
    refine lv_lsub E.1 E.2.1 dX6_wrap_82 ?_
    refine lv_l2i E.1 E.2.1 dX6_wrap_83 rfl ?_
    exact x_i E hW hr hlk h (Nat.le_of_ble_eq_true rfl) (Nat.le_of_ble_eq_true rfl) dX6_wrap_84
  refine lv_if_ne (tgt := 56) E.1 E.2.1 dX6_wrap_49 (by decide) (fun g => ?_) (fun g => ?_)
  · have h := ifn h g
    refine lv_iconst (v := (1 : Int32)) E.1 E.2.1 dX6_wrap_56 (by decide) ?_
    exact hJ32 _ _ _ _ _ _ _ _ _ _ h hW (lv_sub hl [3, 4, 1, 0] rfl)
  · have h := ifp h g
    refine lv_iconst (v := (4 : Int32)) E.1 E.2.1 dX6_wrap_52 (by decide) ?_
    refine lv_goto (tgt := 57) E.1 E.2.1 dX6_wrap_53 (by decide) ?_
    exact hJ32 _ _ _ _ _ _ _ _ _ _ h hW (lv_sub hl [3, 4, 1, 0] rfl)
set_option maxHeartbeats 4000000 in
set_option maxRecDepth 100000 in
theorem m_X6_setCoefficient {l : Launch} {G : GP} {sz : Nat} {q0 : Nat} {a1 : Int32} {a2 : Int32} {a3 : Int32} {a4 : Int32} {σ σ0 : St} {r0 : (Nat ⊕ Int32)} (hl9 : l.stackTraces = false) (h : f_X6_setCoefficient q0 a1 a2 a3 a4 σ = some (r0, σ0)) : vx_Met l yX6_setCoefficient [.code yX6_setCoefficient cX6_setCoefficient 8 (some .int)] ({ frames := 7, cells := 4, slots := 24, locals := 125 } : Room) (va_Pc [.ref (G.2.2.2 + q0), .int a1, .int a2, .int a3, .int a4] (PreC G skC sz σ)) (QX (PoC G skC σ0) (Aw G.2.2.2 skC.1 sz) (rvI r0)) (XX (PoC G skC σ0) (Aw G.2.2.2 skC.1 sz) (rvI r0)) 4 24 (Aw G.2.2.2 skC.1 sz) := by
  refine mkMetX (by decide +kernel) (Nat.le_of_ble_eq_true rfl) skC_ok ?_
  intro p e s m below meth c ls E hW hl hr hlk ht
  have hl : lv_has ls 8 [(0, .ref (G.2.2.2 + q0)), (1, .int a1), (2, .int a2), (3, .int a3), (4, .int a4)] := hl
  generalize Aw G.2.2.2 skC.1 s.heap.size = A0 at E hW ⊢
  generalize ([.ref (G.2.2.2 + q0), .int a1, .int a2, .int a3, .int a4] : List Value).toArray = args
  unfold f_X6_setCoefficient at h
  refine lv_iload_n E.1 E.2.1 dX6_setCoefficient_0 rfl (lv_at hl 1 rfl) ?_
  obtain ⟨r3, σ1, c2, hE, hN⟩ := obx_r2 h
  refine c_SX (As := [.int a1]) (rest := []) E hW (m_X6_requireIndex hl9 c2) kw_641 ws_X6_requireIndex yo_X6_requireIndex ⟨rfl, rfl⟩ ⟨(Nat.le_of_ble_eq_true rfl), (Nat.le_of_ble_eq_true rfl)⟩ (lv_size hl) (Nat.le_of_ble_eq_true rfl) ⟨(Nat.le_of_ble_eq_true rfl), (Nat.le_of_ble_eq_true rfl)⟩ rfl dX6_setCoefficient_1 (fun ex ce q9 H locs hrv hW h1 h2 h3 => ?_) (fun v9 H locs hrv hW => ?_)
  · exact x_outI hW ht hlk h1 h2 h3 (hE ex (rvV_inl hrv)) (Nat.le_of_ble_eq_true rfl) (Nat.le_of_ble_eq_true rfl)
  obtain ⟨-, qv, h⟩ := rvV_inr hrv hN
  subst qv
  refine W.eq (g2 := F0 m 4 ls []) rfl ?_
  refine lv_aload_n E.1 E.2.1 dX6_setCoefficient_4 rfl (lv_at hl 0 rfl) ?_
  refine lv_iload_n E.1 E.2.1 dX6_setCoefficient_5 rfl (lv_at hl 1 rfl) ?_
  obtain ⟨g4, h⟩ := gd_r h
  obtain ⟨r8, σ5, c7, hE, hN⟩ := obx_r2 h
  refine c_VX (As := [.int a1]) (rest := []) E hW (m_X6_requireDefined hl9 c7) g4 rfl kw_660 wv_X6_requireDefined yo_X6_requireDefined ⟨rfl, rfl⟩ ⟨(Nat.le_of_ble_eq_true rfl), (Nat.le_of_ble_eq_true rfl)⟩ (lv_size hl) (Nat.le_of_ble_eq_true rfl) ⟨(Nat.le_of_ble_eq_true rfl), (Nat.le_of_ble_eq_true rfl)⟩ rfl dX6_setCoefficient_6 (fun ex ce q9 H locs hrv hW h1 h2 h3 => ?_) (fun v9 H locs hrv hW => ?_)
  · exact x_outI hW ht hlk h1 h2 h3 (hE ex (rvR_inl hrv)) (Nat.le_of_ble_eq_true rfl) (Nat.le_of_ble_eq_true rfl)
  obtain ⟨q6, qv, h⟩ := rvR_inr hrv hN
  subst qv
  refine W.eq (g2 := F0 m 9 ls [.ref (G.2.2.2 + q6)]) rfl ?_
  refine lv_astore (lv' := [(5, .ref (G.2.2.2 + q6)), (0, .ref (G.2.2.2 + q0)), (1, .int a1), (2, .int a2), (3, .int a3), (4, .int a4)]) E.1 E.2.1 dX6_setCoefficient_9 hl (by decide) rfl (fun ls hl => ?_)
  refine lv_iload_n E.1 E.2.1 dX6_setCoefficient_11 rfl (lv_at hl 3 rfl) ?_
  refine lv_iload_n E.1 E.2.1 dX6_setCoefficient_12 rfl (lv_at hl 4 rfl) ?_
  obtain ⟨r12, σ9, c11, hE, hN⟩ := obx_r2 h
  refine c_SX (As := [.int a2, .int a3]) (rest := []) E hW (m_X6_requireSlot hl9 c11) kw_680 ws_X6_requireSlot yo_X6_requireSlot ⟨rfl, rfl⟩ ⟨(Nat.le_of_ble_eq_true rfl), (Nat.le_of_ble_eq_true rfl)⟩ (lv_size hl) (Nat.le_of_ble_eq_true rfl) ⟨(Nat.le_of_ble_eq_true rfl), (Nat.le_of_ble_eq_true rfl)⟩ rfl dX6_setCoefficient_13 (fun ex ce q9 H locs hrv hW h1 h2 h3 => ?_) (fun v9 H locs hrv hW => ?_)
  · exact x_outI hW ht hlk h1 h2 h3 (hE ex (rvI_inl hrv)) (Nat.le_of_ble_eq_true rfl) (Nat.le_of_ble_eq_true rfl)
  obtain ⟨x10, qv, h⟩ := rvI_inr hrv hN
  subst qv
  refine W.eq (g2 := F0 m 16 ls [.int x10]) rfl ?_
  refine lv_istore (lv' := [(6, .int x10), (5, .ref (G.2.2.2 + q6)), (0, .ref (G.2.2.2 + q0)), (1, .int a1), (2, .int a2), (3, .int a3), (4, .int a4)]) E.1 E.2.1 dX6_setCoefficient_16 hl (by decide) rfl (fun ls hl => ?_)
  refine lv_iload E.1 E.2.1 dX6_setCoefficient_18 (lv_at hl 6 rfl) ?_
  refine lv_i2l E.1 E.2.1 dX6_setCoefficient_20 rfl ?_
  refine lv_ldc2 (v := (-100000000 : Int64)) E.1 E.2.1 E.2.2.2.1 (E.wd kw_880) dX6_setCoefficient_21 ?_
  refine lv_ldc2 (v := (100000000 : Int64)) E.1 E.2.1 E.2.2.2.1 (E.wd kw_856) dX6_setCoefficient_24 ?_
  obtain ⟨r15, σ13, c14, hE, hN⟩ := obx_r2 h
  refine c_SX (As := [.long a4.toInt64, .long (-100000000 : Int64), .long (100000000 : Int64)]) (rest := []) E hW (m_X6_requireBetween hl9 c14) kw_724 ws_X6_requireBetween yo_X6_requireBetween ⟨rfl, rfl⟩ ⟨(Nat.le_of_ble_eq_true rfl), (Nat.le_of_ble_eq_true rfl)⟩ (lv_size hl) (Nat.le_of_ble_eq_true rfl) ⟨(Nat.le_of_ble_eq_true rfl), (Nat.le_of_ble_eq_true rfl)⟩ rfl dX6_setCoefficient_27 (fun ex ce q9 H locs hrv hW h1 h2 h3 => ?_) (fun v9 H locs hrv hW => ?_)
  · exact x_outI hW ht hlk h1 h2 h3 (hE ex (rvV_inl hrv)) (Nat.le_of_ble_eq_true rfl) (Nat.le_of_ble_eq_true rfl)
  obtain ⟨-, qv, h⟩ := rvV_inr hrv hN
  subst qv
  refine W.eq (g2 := F0 m 30 ls []) rfl ?_
  refine lv_aload_n E.1 E.2.1 dX6_setCoefficient_30 rfl (lv_at hl 2 rfl) ?_
  refine gf_X6_19 E hW g4 dX6_setCoefficient_31 ?_
  refine lv_aload_n E.1 E.2.1 dX6_setCoefficient_34 rfl (lv_at hl 2 rfl) ?_
  refine gf_X6_10 E hW g4 dX6_setCoefficient_35 ?_
  obtain ⟨g16, h⟩ := gd_r h
  obtain ⟨_r, σ17, c18, h⟩ := obn_r h
  refine c_V (As := [.ref (G.2.2.2 + (rC q0 0))]) (rest := []) E hW (m_X1_remember c18) g16 rfl kw_616 wv_X1_remember yo_X1_remember ⟨rfl, rfl⟩ ⟨(Nat.le_of_ble_eq_true rfl), (Nat.le_of_ble_eq_true rfl)⟩ (lv_size hl) (Nat.le_of_ble_eq_true rfl) ⟨(Nat.le_of_ble_eq_true rfl), (Nat.le_of_ble_eq_true rfl)⟩ rfl dX6_setCoefficient_38 (fun H locs hW => ?_)
  refine W.eq (g2 := F0 m 41 ls []) rfl ?_
  refine lv_aload E.1 E.2.1 dX6_setCoefficient_41 (lv_at hl 1 rfl) ?_
  refine lv_iload E.1 E.2.1 dX6_setCoefficient_43 (lv_at hl 0 rfl) ?_
  obtain ⟨g19, h⟩ := gd_r h
  obtain ⟨x21, σ20, c22, h⟩ := obn_r h
  refine c_V (As := [.int x10]) (rest := []) E hW (m_X2_coefficientAt c22) g19 rfl kw_685 wv_X2_coefficientAt yo_X2_coefficientAt ⟨rfl, rfl⟩ ⟨(Nat.le_of_ble_eq_true rfl), (Nat.le_of_ble_eq_true rfl)⟩ (lv_size hl) (Nat.le_of_ble_eq_true rfl) ⟨(Nat.le_of_ble_eq_true rfl), (Nat.le_of_ble_eq_true rfl)⟩ rfl dX6_setCoefficient_45 (fun H locs hW => ?_)
  refine W.eq (g2 := F0 m 48 ls [.long x21]) rfl ?_
  refine lv_l2i E.1 E.2.1 dX6_setCoefficient_48 rfl ?_
  refine lv_topi (fun x23 ex23 => ?_)
  have h := bnd_r ex23 h
  refine lv_istore (lv' := [(7, .int x23), (6, .int x10), (5, .ref (G.2.2.2 + q6)), (0, .ref (G.2.2.2 + q0)), (1, .int a1), (2, .int a2), (3, .int a3), (4, .int a4)]) E.1 E.2.1 dX6_setCoefficient_49 hl (by decide) rfl (fun ls hl => ?_)
  refine lv_aload E.1 E.2.1 dX6_setCoefficient_51 (lv_at hl 2 rfl) ?_
  refine lv_iload E.1 E.2.1 dX6_setCoefficient_53 (lv_at hl 1 rfl) ?_
  refine lv_iload E.1 E.2.1 dX6_setCoefficient_55 (lv_at hl 7 rfl) ?_
  refine lv_i2l E.1 E.2.1 dX6_setCoefficient_57 rfl ?_
  obtain ⟨_r, σ24, c25, h⟩ := obn_r h
  refine c_V (As := [.int x10, .long a4.toInt64]) (rest := []) E hW (m_X2_setCoefficientAt c25) g19 rfl kw_872 wv_X2_setCoefficientAt yo_X2_setCoefficientAt ⟨rfl, rfl⟩ ⟨(Nat.le_of_ble_eq_true rfl), (Nat.le_of_ble_eq_true rfl)⟩ (lv_size hl) (Nat.le_of_ble_eq_true rfl) ⟨(Nat.le_of_ble_eq_true rfl), (Nat.le_of_ble_eq_true rfl)⟩ rfl dX6_setCoefficient_58 (fun H locs hW => ?_)
  refine W.eq (g2 := F0 m 61 ls []) rfl ?_
  refine lv_iload E.1 E.2.1 dX6_setCoefficient_61 (lv_at hl 0 rfl) ?_
  exact x_i E hW hr hlk h (Nat.le_of_ble_eq_true rfl) (Nat.le_of_ble_eq_true rfl) dX6_setCoefficient_63
set_option maxHeartbeats 4000000 in
set_option maxRecDepth 100000 in
theorem m_X6_setRemainder {l : Launch} {G : GP} {sz : Nat} {q0 : Nat} {a1 : Int32} {a2 : Int32} {a3 : Int32} {σ σ0 : St} {r0 : (Nat ⊕ Int32)} (hl9 : l.stackTraces = false) (h : f_X6_setRemainder q0 a1 a2 a3 σ = some (r0, σ0)) : vx_Met l yX6_setRemainder [.code yX6_setRemainder cX6_setRemainder 6 (some .int)] ({ frames := 7, cells := 4, slots := 24, locals := 125 } : Room) (va_Pc [.ref (G.2.2.2 + q0), .int a1, .int a2, .int a3] (PreC G skC sz σ)) (QX (PoC G skC σ0) (Aw G.2.2.2 skC.1 sz) (rvI r0)) (XX (PoC G skC σ0) (Aw G.2.2.2 skC.1 sz) (rvI r0)) 4 24 (Aw G.2.2.2 skC.1 sz) := by
  refine mkMetX (by decide +kernel) (Nat.le_of_ble_eq_true rfl) skC_ok ?_
  intro p e s m below meth c ls E hW hl hr hlk ht
  have hl : lv_has ls 6 [(0, .ref (G.2.2.2 + q0)), (1, .int a1), (2, .int a2), (3, .int a3)] := hl
  generalize Aw G.2.2.2 skC.1 s.heap.size = A0 at E hW ⊢
  generalize ([.ref (G.2.2.2 + q0), .int a1, .int a2, .int a3] : List Value).toArray = args
  unfold f_X6_setRemainder at h
  refine lv_iload_n E.1 E.2.1 dX6_setRemainder_0 rfl (lv_at hl 1 rfl) ?_
  obtain ⟨r3, σ1, c2, hE, hN⟩ := obx_r2 h
  refine c_SX (As := [.int a1]) (rest := []) E hW (m_X6_requireIndex hl9 c2) kw_641 ws_X6_requireIndex yo_X6_requireIndex ⟨rfl, rfl⟩ ⟨(Nat.le_of_ble_eq_true rfl), (Nat.le_of_ble_eq_true rfl)⟩ (lv_size hl) (Nat.le_of_ble_eq_true rfl) ⟨(Nat.le_of_ble_eq_true rfl), (Nat.le_of_ble_eq_true rfl)⟩ rfl dX6_setRemainder_1 (fun ex ce q9 H locs hrv hW h1 h2 h3 => ?_) (fun v9 H locs hrv hW => ?_)
  · exact x_outI hW ht hlk h1 h2 h3 (hE ex (rvV_inl hrv)) (Nat.le_of_ble_eq_true rfl) (Nat.le_of_ble_eq_true rfl)
  obtain ⟨-, qv, h⟩ := rvV_inr hrv hN
  subst qv
  refine W.eq (g2 := F0 m 4 ls []) rfl ?_
  refine lv_aload_n E.1 E.2.1 dX6_setRemainder_4 rfl (lv_at hl 0 rfl) ?_
  refine lv_iload_n E.1 E.2.1 dX6_setRemainder_5 rfl (lv_at hl 1 rfl) ?_
  obtain ⟨g4, h⟩ := gd_r h
  obtain ⟨r8, σ5, c7, hE, hN⟩ := obx_r2 h
  refine c_VX (As := [.int a1]) (rest := []) E hW (m_X6_requireDefined hl9 c7) g4 rfl kw_660 wv_X6_requireDefined yo_X6_requireDefined ⟨rfl, rfl⟩ ⟨(Nat.le_of_ble_eq_true rfl), (Nat.le_of_ble_eq_true rfl)⟩ (lv_size hl) (Nat.le_of_ble_eq_true rfl) ⟨(Nat.le_of_ble_eq_true rfl), (Nat.le_of_ble_eq_true rfl)⟩ rfl dX6_setRemainder_6 (fun ex ce q9 H locs hrv hW h1 h2 h3 => ?_) (fun v9 H locs hrv hW => ?_)
  · exact x_outI hW ht hlk h1 h2 h3 (hE ex (rvR_inl hrv)) (Nat.le_of_ble_eq_true rfl) (Nat.le_of_ble_eq_true rfl)
  obtain ⟨q6, qv, h⟩ := rvR_inr hrv hN
  subst qv
  refine W.eq (g2 := F0 m 9 ls [.ref (G.2.2.2 + q6)]) rfl ?_
  refine lv_astore (lv' := [(4, .ref (G.2.2.2 + q6)), (0, .ref (G.2.2.2 + q0)), (1, .int a1), (2, .int a2), (3, .int a3)]) E.1 E.2.1 dX6_setRemainder_9 hl (by decide) rfl (fun ls hl => ?_)
  refine lv_iload_n E.1 E.2.1 dX6_setRemainder_11 rfl (lv_at hl 3 rfl) ?_
  refine lv_i2l E.1 E.2.1 dX6_setRemainder_12 rfl ?_
  refine lv_ldc2 (v := (-100000000 : Int64)) E.1 E.2.1 E.2.2.2.1 (E.wd kw_880) dX6_setRemainder_13 ?_
  refine lv_ldc2 (v := (100000000 : Int64)) E.1 E.2.1 E.2.2.2.1 (E.wd kw_856) dX6_setRemainder_16 ?_
  obtain ⟨r11, σ9, c10, hE, hN⟩ := obx_r2 h
  refine c_SX (As := [.long a2.toInt64, .long (-100000000 : Int64), .long (100000000 : Int64)]) (rest := []) E hW (m_X6_requireBetween hl9 c10) kw_724 ws_X6_requireBetween yo_X6_requireBetween ⟨rfl, rfl⟩ ⟨(Nat.le_of_ble_eq_true rfl), (Nat.le_of_ble_eq_true rfl)⟩ (lv_size hl) (Nat.le_of_ble_eq_true rfl) ⟨(Nat.le_of_ble_eq_true rfl), (Nat.le_of_ble_eq_true rfl)⟩ rfl dX6_setRemainder_19 (fun ex ce q9 H locs hrv hW h1 h2 h3 => ?_) (fun v9 H locs hrv hW => ?_)
  · exact x_outI hW ht hlk h1 h2 h3 (hE ex (rvV_inl hrv)) (Nat.le_of_ble_eq_true rfl) (Nat.le_of_ble_eq_true rfl)
  obtain ⟨-, qv, h⟩ := rvV_inr hrv hN
  subst qv
  refine W.eq (g2 := F0 m 22 ls []) rfl ?_
  refine lv_iload_n E.1 E.2.1 dX6_setRemainder_22 rfl (lv_at hl 4 rfl) ?_
  refine lv_i2l E.1 E.2.1 dX6_setRemainder_23 rfl ?_
  refine lv_iload_n E.1 E.2.1 dX6_setRemainder_24 rfl (lv_at hl 3 rfl) ?_
  refine lv_i2l E.1 E.2.1 dX6_setRemainder_25 rfl ?_
  refine lv_ldc2 (v := (100000000 : Int64)) E.1 E.2.1 E.2.2.2.1 (E.wd kw_856) dX6_setRemainder_26 ?_
  obtain ⟨r14, σ12, c13, hE, hN⟩ := obx_r2 h
  refine c_SX (As := [.long a3.toInt64, .long a2.toInt64, .long (100000000 : Int64)]) (rest := []) E hW (m_X6_requireBetween hl9 c13) kw_724 ws_X6_requireBetween yo_X6_requireBetween ⟨rfl, rfl⟩ ⟨(Nat.le_of_ble_eq_true rfl), (Nat.le_of_ble_eq_true rfl)⟩ (lv_size hl) (Nat.le_of_ble_eq_true rfl) ⟨(Nat.le_of_ble_eq_true rfl), (Nat.le_of_ble_eq_true rfl)⟩ rfl dX6_setRemainder_29 (fun ex ce q9 H locs hrv hW h1 h2 h3 => ?_) (fun v9 H locs hrv hW => ?_)
  · exact x_outI hW ht hlk h1 h2 h3 (hE ex (rvV_inl hrv)) (Nat.le_of_ble_eq_true rfl) (Nat.le_of_ble_eq_true rfl)
  obtain ⟨-, qv, h⟩ := rvV_inr hrv hN
  subst qv
  refine W.eq (g2 := F0 m 32 ls []) rfl ?_
  refine lv_aload_n E.1 E.2.1 dX6_setRemainder_32 rfl (lv_at hl 1 rfl) ?_
  refine gf_X6_19 E hW g4 dX6_setRemainder_33 ?_
  refine lv_aload_n E.1 E.2.1 dX6_setRemainder_36 rfl (lv_at hl 1 rfl) ?_
  refine gf_X6_10 E hW g4 dX6_setRemainder_37 ?_
  obtain ⟨g15, h⟩ := gd_r h
  obtain ⟨_r, σ16, c17, h⟩ := obn_r h
  refine c_V (As := [.ref (G.2.2.2 + (rC q0 0))]) (rest := []) E hW (m_X1_remember c17) g15 rfl kw_616 wv_X1_remember yo_X1_remember ⟨rfl, rfl⟩ ⟨(Nat.le_of_ble_eq_true rfl), (Nat.le_of_ble_eq_true rfl)⟩ (lv_size hl) (Nat.le_of_ble_eq_true rfl) ⟨(Nat.le_of_ble_eq_true rfl), (Nat.le_of_ble_eq_true rfl)⟩ rfl dX6_setRemainder_40 (fun H locs hW => ?_)
  refine W.eq (g2 := F0 m 43 ls []) rfl ?_
  refine lv_aload E.1 E.2.1 dX6_setRemainder_43 (lv_at hl 0 rfl) ?_
  obtain ⟨g18, h⟩ := gd_r h
  obtain ⟨x20, σ19, c21, h⟩ := obn_r h
  refine c_V (As := []) (rest := []) E hW (m_X2_width c21) g18 rfl kw_800 wv_X2_width yo_X2_width ⟨rfl, rfl⟩ ⟨(Nat.le_of_ble_eq_true rfl), (Nat.le_of_ble_eq_true rfl)⟩ (lv_size hl) (Nat.le_of_ble_eq_true rfl) ⟨(Nat.le_of_ble_eq_true rfl), (Nat.le_of_ble_eq_true rfl)⟩ rfl dX6_setRemainder_45 (fun H locs hW => ?_)
  refine W.eq (g2 := F0 m 48 ls [.int x20]) rfl ?_
  refine lv_istore (lv' := [(5, .int x20), (4, .ref (G.2.2.2 + q6)), (0, .ref (G.2.2.2 + q0)), (1, .int a1), (2, .int a2), (3, .int a3)]) E.1 E.2.1 dX6_setRemainder_48 hl (by decide) rfl (fun ls hl => ?_)
  refine lv_aload E.1 E.2.1 dX6_setRemainder_50 (lv_at hl 1 rfl) ?_
  refine lv_iload_n E.1 E.2.1 dX6_setRemainder_52 rfl (lv_at hl 4 rfl) ?_
  refine lv_i2l E.1 E.2.1 dX6_setRemainder_53 rfl ?_
  refine pf_X6_113 E hW g18 dX6_setRemainder_54 (fun σ22 H locs eσ22 hW => ?_)
  have h := bnd_r eσ22 h
  refine lv_aload E.1 E.2.1 dX6_setRemainder_57 (lv_at hl 1 rfl) ?_
  refine lv_iload_n E.1 E.2.1 dX6_setRemainder_59 rfl (lv_at hl 5 rfl) ?_
  refine lv_i2l E.1 E.2.1 dX6_setRemainder_60 rfl ?_
  refine pf_X6_117 E hW g18 dX6_setRemainder_61 (fun σ23 H locs eσ23 hW => ?_)
  have h := bnd_r eσ23 h
  refine lv_iload E.1 E.2.1 dX6_setRemainder_64 (lv_at hl 0 rfl) ?_
  exact x_i E hW hr hlk h (Nat.le_of_ble_eq_true rfl) (Nat.le_of_ble_eq_true rfl) dX6_setRemainder_66
set_option maxHeartbeats 4000000 in
set_option maxRecDepth 100000 in
theorem m_X6_clear {l : Launch} {G : GP} {sz : Nat} {q0 : Nat} {a1 : Int32} {σ σ0 : St} {r0 : (Nat ⊕ Int32)} (hl9 : l.stackTraces = false) (h : f_X6_clear q0 a1 σ = some (r0, σ0)) : vx_Met l yX6_clear [.code yX6_clear cX6_clear 3 (some .boolean)] ({ frames := 7, cells := 1, slots := 6, locals := 124 } : Room) (va_Pc [.ref (G.2.2.2 + q0), .int a1] (PreC G skC sz σ)) (QX (PoC G skC σ0) (Aw G.2.2.2 skC.1 sz) (rvI r0)) (XX (PoC G skC σ0) (Aw G.2.2.2 skC.1 sz) (rvI r0)) 1 6 (Aw G.2.2.2 skC.1 sz) := by
  refine mkMetX (by decide +kernel) (Nat.le_of_ble_eq_true rfl) skC_ok ?_
  intro p e s m below meth c ls E hW hl hr hlk ht
  have hl : lv_has ls 3 [(0, .ref (G.2.2.2 + q0)), (1, .int a1)] := hl
  generalize Aw G.2.2.2 skC.1 s.heap.size = A0 at E hW ⊢
  generalize ([.ref (G.2.2.2 + q0), .int a1] : List Value).toArray = args
  unfold f_X6_clear at h
  refine lv_iload_n E.1 E.2.1 dX6_clear_0 rfl (lv_at hl 1 rfl) ?_
  obtain ⟨r3, σ1, c2, hE, hN⟩ := obx_r2 h
  refine c_SX (As := [.int a1]) (rest := []) E hW (m_X6_requireIndex hl9 c2) kw_641 ws_X6_requireIndex yo_X6_requireIndex ⟨rfl, rfl⟩ ⟨(Nat.le_of_ble_eq_true rfl), (Nat.le_of_ble_eq_true rfl)⟩ (lv_size hl) (Nat.le_of_ble_eq_true rfl) ⟨(Nat.le_of_ble_eq_true rfl), (Nat.le_of_ble_eq_true rfl)⟩ rfl dX6_clear_1 (fun ex ce q9 H locs hrv hW h1 h2 h3 => ?_) (fun v9 H locs hrv hW => ?_)
  · exact x_outI hW ht hlk h1 h2 h3 (hE ex (rvV_inl hrv)) (Nat.le_of_ble_eq_true rfl) (Nat.le_of_ble_eq_true rfl)
  obtain ⟨-, qv, h⟩ := rvV_inr hrv hN
  subst qv
  refine W.eq (g2 := F0 m 4 ls []) rfl ?_
  refine lv_aload_n E.1 E.2.1 dX6_clear_4 rfl (lv_at hl 0 rfl) ?_
  obtain ⟨g4, h⟩ := gd_r h
  refine gf_X6_19 E hW g4 dX6_clear_5 ?_
  refine lv_aload_n E.1 E.2.1 dX6_clear_8 rfl (lv_at hl 0 rfl) ?_
  refine gf_X6_10 E hW g4 dX6_clear_9 ?_
  obtain ⟨g5, h⟩ := gd_r h
  obtain ⟨_r, σ6, c7, h⟩ := obn_r h
  refine c_V (As := [.ref (G.2.2.2 + (rC q0 0))]) (rest := []) E hW (m_X1_remember c7) g5 rfl kw_616 wv_X1_remember yo_X1_remember ⟨rfl, rfl⟩ ⟨(Nat.le_of_ble_eq_true rfl), (Nat.le_of_ble_eq_true rfl)⟩ (lv_size hl) (Nat.le_of_ble_eq_true rfl) ⟨(Nat.le_of_ble_eq_true rfl), (Nat.le_of_ble_eq_true rfl)⟩ rfl dX6_clear_12 (fun H locs hW => ?_)
  refine W.eq (g2 := F0 m 15 ls []) rfl ?_
  refine lv_aload_n E.1 E.2.1 dX6_clear_15 rfl (lv_at hl 0 rfl) ?_
  refine gf_X6_10 E hW g4 dX6_clear_16 ?_
  refine lv_iload_n E.1 E.2.1 dX6_clear_19 rfl (lv_at hl 1 rfl) ?_
  obtain ⟨g8, h⟩ := gd_r h
  obtain ⟨x10, σ9, c11, h⟩ := obn_r h
  refine c_V (As := [.int a1]) (rest := []) E hW (m_X3_has c11) g8 rfl kw_263 wv_X3_has yo_X3_has ⟨rfl, rfl⟩ ⟨(Nat.le_of_ble_eq_true rfl), (Nat.le_of_ble_eq_true rfl)⟩ (lv_size hl) (Nat.le_of_ble_eq_true rfl) ⟨(Nat.le_of_ble_eq_true rfl), (Nat.le_of_ble_eq_true rfl)⟩ rfl dX6_clear_20 (fun H locs hW => ?_)
  refine W.eq (g2 := F0 m 23 ls [.int x10]) rfl ?_
  refine lv_istore_n (lv' := [(2, .int x10), (0, .ref (G.2.2.2 + q0)), (1, .int a1)]) E.1 E.2.1 dX6_clear_23 rfl hl (by decide) rfl (fun ls hl => ?_)
  refine lv_aload_n E.1 E.2.1 dX6_clear_24 rfl (lv_at hl 1 rfl) ?_
  refine gf_X6_10 E hW g4 dX6_clear_25 ?_
  refine lv_iload_n E.1 E.2.1 dX6_clear_28 rfl (lv_at hl 2 rfl) ?_
  obtain ⟨_r, σ12, c13, h⟩ := obn_r h
  refine c_V (As := [.int a1]) (rest := []) E hW (m_X3_remove c13) g8 rfl kw_895 wv_X3_remove yo_X3_remove ⟨rfl, rfl⟩ ⟨(Nat.le_of_ble_eq_true rfl), (Nat.le_of_ble_eq_true rfl)⟩ (lv_size hl) (Nat.le_of_ble_eq_true rfl) ⟨(Nat.le_of_ble_eq_true rfl), (Nat.le_of_ble_eq_true rfl)⟩ rfl dX6_clear_29 (fun H locs hW => ?_)
  refine W.eq (g2 := F0 m 32 ls []) rfl ?_
  refine lv_iload_n E.1 E.2.1 dX6_clear_32 rfl (lv_at hl 0 rfl) ?_
  obtain ⟨g14, h⟩ := gd_r h
  exact x_z E hW hr hlk g14 h (Nat.le_of_ble_eq_true rfl) (Nat.le_of_ble_eq_true rfl) dX6_clear_33
set_option maxHeartbeats 4000000 in
set_option maxRecDepth 100000 in
theorem m_X6_undo {l : Launch} {G : GP} {sz : Nat} {q0 : Nat} {σ σ0 : St} {r0 : Int32} (h : f_X6_undo q0 σ = some (r0, σ0)) : Met l yX6_undo [.code yX6_undo cX6_undo 1 (some .int)] ({ frames := 4, cells := 0, slots := 0, locals := 125 } : Room) (va_Pc [.ref (G.2.2.2 + q0)] (PreC G skC sz σ)) (QO (PoC G skC σ0) (Aw G.2.2.2 skC.1 sz) (some (.int r0))) 0 0 (Aw G.2.2.2 skC.1 sz) := by
  refine mkMet (by decide +kernel) (Nat.le_of_ble_eq_true rfl) skC_ok ?_
  intro p e s m below meth c ls E hW hl hr hlk
  have hl : lv_has ls 1 [(0, .ref (G.2.2.2 + q0))] := hl
  generalize Aw G.2.2.2 skC.1 s.heap.size = A0 at E hW ⊢
  generalize ([.ref (G.2.2.2 + q0)] : List Value).toArray = args
  unfold f_X6_undo at h
  refine lv_aload_n E.1 E.2.1 dX6_undo_0 rfl (lv_at hl 0 rfl) ?_
  obtain ⟨g1, h⟩ := gd_r h
  refine gf_X6_19 E hW g1 dX6_undo_1 ?_
  refine lv_aload_n E.1 E.2.1 dX6_undo_4 rfl (lv_at hl 0 rfl) ?_
  refine gf_X6_10 E hW g1 dX6_undo_5 ?_
  obtain ⟨g2, h⟩ := gd_r h
  obtain ⟨x4, σ3, c5, h⟩ := obn_r h
  refine c_V (As := [.ref (G.2.2.2 + (rC q0 0))]) (rest := []) E hW (m_X1_restore c5) g2 rfl kw_244 wv_X1_restore yo_X1_restore ⟨rfl, rfl⟩ ⟨(Nat.le_of_ble_eq_true rfl), (Nat.le_of_ble_eq_true rfl)⟩ (lv_size hl) (Nat.le_of_ble_eq_true rfl) ⟨(Nat.le_of_ble_eq_true rfl), (Nat.le_of_ble_eq_true rfl)⟩ rfl dX6_undo_8 (fun H locs hW => ?_)
  refine W.eq (g2 := F0 m 11 ls [.int x4]) rfl ?_
  refine lv_if_eq (tgt := 24) E.1 E.2.1 dX6_undo_11 (by decide) (fun g => ?_) (fun g => ?_)
  · have h := ifp h g
    refine lv_iconst (v := (-1 : Int32)) E.1 E.2.1 dX6_undo_24 (by decide) ?_
    exact e_i E hW hr hlk h dX6_undo_25
  · have h := ifn h g
    refine lv_aload_n E.1 E.2.1 dX6_undo_14 rfl (lv_at hl 0 rfl) ?_
    refine gf_X6_19 E hW g1 dX6_undo_15 ?_
    refine gf_X6_222 E hW g2 dX6_undo_18 ?_
    refine lv_goto (tgt := 25) E.1 E.2.1 dX6_undo_21 (by decide) ?_
    exact e_i E hW hr hlk h dX6_undo_25
set_option maxHeartbeats 4000000 in
set_option maxRecDepth 100000 in
theorem L_X6_checksum_11 {p : Program} {l : Launch} {e : Env} {s : State} {m : MethodId} {args : Array Value} {below : List Frame} {meth : Method} {c : Code} {G : GP} {A0 : Nat → Prop} {σ0 : St} {r0 : Int64} (E : En p m c s cX6_checksum 4 yX6_checksum.cls G A0) (hr : meth.sig.returnType = (some .long)) (hlk : meth.locks = false) : ∀ (n8 : Nat) (q5 : Nat) (x6 : Int64) (x7 : Int32) (σ4 : St) (H : Heap) (locs : List Loc) (ls : Array Slot), f_X6_checksum_L11 n8 q5 x6 x7 σ4 = some (r0, σ0) → Wo G skC A0 s σ4 H locs → lv_has ls 4 [(0, .ref (G.2.2.2 + q5)), (1, .long x6), (3, .int x7)] → W p l e ({ frames := 1, cells := 0, slots := 0, locals := 25 } : Room) s m args below meth c H locs 0 0 (MQ below (QO (PoC G skC σ0) A0 (some (.long r0))) args s 0 0 A0) (F0 m 11 ls []) := by
  intro n8
  induction n8 with
  | zero =>
    intro q5 x6 x7 σ4 H locs ls h hW hl
    rw [f_X6_checksum_L11] at h
    cases h
  | succ n8 ih =>
    intro q5 x6 x7 σ4 H locs ls h hW hl
    rw [f_X6_checksum_L11] at h
    refine lv_iload_n E.1 E.2.1 dX6_checksum_11 rfl (lv_at hl 2 rfl) ?_
    refine lv_bipush (v := (8 : Int32)) E.1 E.2.1 dX6_checksum_12 (by decide) ?_
    refine lv_icmp_ge (tgt := 48) E.1 E.2.1 dX6_checksum_14 (by decide) (fun g => ?_) (fun g => ?_)
    · have h := ifp h g
      refine lv_lload_n E.1 E.2.1 dX6_checksum_48 rfl (lv_at hl 1 rfl) ?_
      exact e_j E hW hr hlk h dX6_checksum_49
    · have h := ifn h g
      refine lv_aload_n E.1 E.2.1 dX6_checksum_17 rfl (lv_at hl 0 rfl) ?_
      obtain ⟨g9, h⟩ := gd_r h
      refine gf_X6_10 E hW g9 dX6_checksum_18 ?_
      refine lv_iload_n E.1 E.2.1 dX6_checksum_21 rfl (lv_at hl 2 rfl) ?_
      obtain ⟨g10, h⟩ := gd_r h
      obtain ⟨x12, σ11, c13, h⟩ := obn_r h
      refine c_V (As := [.int x7]) (rest := []) E hW (m_X3_has c13) g10 rfl kw_263 wv_X3_has yo_X3_has ⟨rfl, rfl⟩ ⟨(Nat.le_of_ble_eq_true rfl), (Nat.le_of_ble_eq_true rfl)⟩ (lv_size hl) (Nat.le_of_ble_eq_true rfl) ⟨(Nat.le_of_ble_eq_true rfl), (Nat.le_of_ble_eq_true rfl)⟩ rfl dX6_checksum_22 (fun H locs hW => ?_)
      refine W.eq (g2 := F0 m 25 ls [.int x12]) rfl ?_
      refine lv_if_eq (tgt := 42) E.1 E.2.1 dX6_checksum_25 (by decide) (fun g => ?_) (fun g => ?_)
      · have h := ifp h g
        obtain ⟨x14, ex14⟩ : ∃ y : Int32, y = x7 + (1 : Int32) := ⟨_, rfl⟩
        have h := bnd_r ex14 h
        refine lv_iinc (v := x14) (lv' := [(3, .int x14), (0, .ref (G.2.2.2 + q5)), (1, .long x6)]) E.1 E.2.1 dX6_checksum_42 hl (k := 2) rfl (by rw [ex14]; rfl) (by decide) rfl (fun ls hl => ?_)
        refine lv_goto (tgt := 11) E.1 E.2.1 dX6_checksum_45 (by decide) ?_
        exact ih _ _ _ _ _ _ _ h hW (lv_sub hl [1, 2, 0] rfl)
      · have h := ifn h g
        refine lv_aload_n E.1 E.2.1 dX6_checksum_28 rfl (lv_at hl 0 rfl) ?_
        refine gf_X6_10 E hW g9 dX6_checksum_29 ?_
        refine gf_X6_224 E hW g10 dX6_checksum_32 ?_
        refine lv_iload_n E.1 E.2.1 dX6_checksum_35 rfl (lv_at hl 2 rfl) ?_
        obtain ⟨g15, h⟩ := gd_r h
        refine r_aald (t := 0) (ty := .object "TaylorModels$Model") E hW (pr_eq g15.1) g15.2 rfl rfl (by decide) dX6_checksum_36 ?_
        refine lv_lload_n E.1 E.2.1 dX6_checksum_37 rfl (lv_at hl 1 rfl) ?_
        obtain ⟨g16, h⟩ := gd_r h
        obtain ⟨x18, σ17, c19, h⟩ := obn_r h
        refine c_V (As := [.long x6]) (rest := []) E hW (m_X2_addToChecksum c19) g16 rfl kw_267 wv_X2_addToChecksum yo_X2_addToChecksum ⟨rfl, rfl⟩ ⟨(Nat.le_of_ble_eq_true rfl), (Nat.le_of_ble_eq_true rfl)⟩ (lv_size hl) (Nat.le_of_ble_eq_true rfl) ⟨(Nat.le_of_ble_eq_true rfl), (Nat.le_of_ble_eq_true rfl)⟩ rfl dX6_checksum_38 (fun H locs hW => ?_)
        refine W.eq (g2 := F0 m 41 ls [.long x18]) rfl ?_
        refine lv_lstore_n (lv' := [(1, .long x18), (0, .ref (G.2.2.2 + q5)), (3, .int x7)]) E.1 E.2.1 dX6_checksum_41 rfl hl (by decide) rfl (fun ls hl => ?_)
        obtain ⟨x20, ex20⟩ : ∃ y : Int32, y = x7 + (1 : Int32) := ⟨_, rfl⟩
        have h := bnd_r ex20 h
        refine lv_iinc (v := x20) (lv' := [(3, .int x20), (1, .long x18), (0, .ref (G.2.2.2 + q5))]) E.1 E.2.1 dX6_checksum_42 hl (k := 2) rfl (by rw [ex20]; rfl) (by decide) rfl (fun ls hl => ?_)
        refine lv_goto (tgt := 11) E.1 E.2.1 dX6_checksum_45 (by decide) ?_
        exact ih _ _ _ _ _ _ _ h hW (lv_sub hl [2, 1, 0] rfl)
set_option maxHeartbeats 4000000 in
set_option maxRecDepth 100000 in
theorem m_X6_checksum {l : Launch} {G : GP} {sz : Nat} {q0 : Nat} {σ σ0 : St} {r0 : Int64} (h : f_X6_checksum q0 σ = some (r0, σ0)) : Met l yX6_checksum [.code yX6_checksum cX6_checksum 4 (some .long)] ({ frames := 1, cells := 0, slots := 0, locals := 25 } : Room) (va_Pc [.ref (G.2.2.2 + q0)] (PreC G skC sz σ)) (QO (PoC G skC σ0) (Aw G.2.2.2 skC.1 sz) (some (.long r0))) 0 0 (Aw G.2.2.2 skC.1 sz) := by
  refine mkMet (by decide +kernel) (Nat.le_of_ble_eq_true rfl) skC_ok ?_
  intro p e s m below meth c ls E hW hl hr hlk
  have hl : lv_has ls 4 [(0, .ref (G.2.2.2 + q0))] := hl
  generalize Aw G.2.2.2 skC.1 s.heap.size = A0 at E hW ⊢
  generalize ([.ref (G.2.2.2 + q0)] : List Value).toArray = args
  unfold f_X6_checksum at h
  refine lv_aload_n E.1 E.2.1 dX6_checksum_0 rfl (lv_at hl 0 rfl) ?_
  obtain ⟨g1, h⟩ := gd_r h
  refine gf_X6_10 E hW g1 dX6_checksum_1 ?_
  obtain ⟨g2, h⟩ := gd_r h
  refine gf_X6_92 E hW g2 dX6_checksum_4 ?_
  refine lv_i2l E.1 E.2.1 dX6_checksum_7 rfl ?_
  refine lv_topl (fun x3 ex3 => ?_)
  have h := bnd_r ex3 h
  refine lv_lstore_n (lv' := [(1, .long x3), (0, .ref (G.2.2.2 + q0))]) E.1 E.2.1 dX6_checksum_8 rfl hl (by decide) rfl (fun ls hl => ?_)
  refine lv_iconst (v := (0 : Int32)) E.1 E.2.1 dX6_checksum_9 (by decide) ?_
  refine lv_istore_n (lv' := [(3, .int (0 : Int32)), (1, .long x3), (0, .ref (G.2.2.2 + q0))]) E.1 E.2.1 dX6_checksum_10 rfl hl (by decide) rfl (fun ls hl => ?_)
  refine L_X6_checksum_11 E hr hlk _ _ _ _ _ _ _ _ h hW (lv_sub hl [2, 1, 0] rfl)
